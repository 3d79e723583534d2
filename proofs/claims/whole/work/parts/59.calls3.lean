section
variable {l : Launch} {sc : Nat × (Nat → Int)} {d : Nat} {M M2 : am_M} {r : (am_V ⊕ Nat) × am_H} {pc idx : Nat} {ls args rest0 : List am_V} {h h1 : am_H} {cd : List am_E} {hd : List (Nat × Nat × Nat × Nat)} {r1 : am_V ⊕ Nat}
/-- what the caller does with what a call of M2 comes to -/
def am_nxt (l : Launch) (sc : Nat × (Nat → Int)) (d : Nat) (M M2 : am_M) (cd : List am_E) (hd : List (Nat × Nat × Nat × Nat)) (pc : Nat) (ls rest0 : List am_V) (r1 : am_V ⊕ Nat) (h1 : am_H) (r : (am_V ⊕ Nat) × am_H) : Prop :=
  (∀ v, r1 = .inl v → am_rt M2.2.2.2.1 v → am_P l sc (d + 1) M (pc + 3) ls (am_psh M2.2.2.2.1 v rest0) h1 r) ∧
  (∀ e, r1 = .inr e → 1 ≤ e ∧ e ≤ 5 → (am_find hd pc e = none ∧ r = (.inr e, h1)) ∨ ∃ t pct, am_find hd pc e = some t ∧ (cd[t]?).map (fun e => e.1) = some pct ∧ am_P l sc (d + 1) M pct ls [Vx 0] h1 r) ∧
  am_hr M.1.cls cd hd M.2.2.2.2.2 ∧ am_mono h1 r.2
def am_cst : Prop := ∀ e, 1 ≤ e ∧ e ≤ 5 → Cond.castable (am_xn e) (am_xn e) ∈ lw_tbl
theorem am_hd2 {M : am_M} (h : am_MI M) : M.1.cls ≠ "java/lang/invoke/MethodHandle" ∧ M.1.cls ≠ "java/lang/invoke/VarHandle" ∧ (parseMethodDescriptor M.1.desc).map (fun d => d.parameters.length) = some M.2.2.2.2.1 := ⟨h.2.2.1, h.2.2.2.1, h.2.2.2.2.1⟩
theorem am_hRm {M : am_M} (h : am_MI M) {a b c e : Nat} : (am_rm d a b).frames + 1 ≤ (am_rm (d + 1) c e).frames ∧ 8 + (M.2.2.1 + 11) + (am_rm d a b).locals ≤ (am_rm (d + 1) c e).locals := by
  have := h.2.2.2.2.2.1
  constructor
  · show d + 10 + 1 ≤ d + 1 + 10; omega
  · show 8 + (M.2.2.1 + 11) + ((d + 1) * 60 + 200) ≤ (d + 1 + 1) * 60 + 200; omega
theorem am_room {h0 h h1 : am_H} {r : (am_V ⊕ Nat) × am_H} (hm : am_mono h0 h) (hm1 : am_mono h h1) (hmr : am_mono h1 r.2) : (hC h - hC h0) + (hC h1 - hC h) ≤ (am_rm (d + 1) (hC r.2 - hC h0) (hS r.2 - hS h0)).cells ∧ (hS h - hS h0) + (hS h1 - hS h) ≤ (am_rm (d + 1) (hC r.2 - hC h0) (hS r.2 - hS h0)).slots := by
  have a1 := hm.1; have a2 := hm.2.1; have b1 := hm1.1; have b2 := hm1.2.1; have c1 := hmr.1; have c2 := hmr.2.1
  constructor
  · show _ ≤ hC r.2 - hC h0; omega
  · show _ ≤ hS r.2 - hS h0; omega
theorem am_s_static (hI : am_MI M2) (hC2 : am_CT l sc d M2 args h (r1, h1)) (hlink : Cond.methodLink M.1.cls idx M2.1 ∈ am_good) (hstat : Cond.static M2.1 ∈ am_good) (hargs : args.all am_nl = true) (hlen : args.length = M2.2.2.2.2.1) (hcat : (rest0.map am_cat).sum ≤ 8) (hx : am_cst) (hdg : decode M.2.1 pc = .ok (.invokestatic idx, 3))
    (hn : am_nxt l sc d M M2 cd hd pc ls rest0 r1 h1 r) : am_P l sc (d + 1) M pc ls (args.reverse ++ rest0) h r := by
  obtain ⟨hret, hthr, hhr, hmr⟩ := hn
  refine ⟨hC2.1.tr hmr, fun p e s m args' below meth c G yc q n0 h0 ad0 C hm H locs ad lsA stA ha hw hV hl hs hlk hsk => ?_⟩
  obtain ⟨m1, m2, rfl, s1, s2⟩ := am_sl_app hs
  obtain ⟨k1, k2⟩ := am_lk_app hsk
  have s3 := am_sl_rev s1
  have k3 := am_lk_rev k1
  rw [List.reverse_reverse] at s3 k3
  have hM := hC2.2 G yc q n0 ad m1.reverse s3 hargs k3
  refine am_cont (M2 := M2) hC2.1 hret hthr hhr hx hmr C hm ha hV hl s2 hlk k2 (a := m1.reverse.toArray) ?_
  by_cases hh : M2.2.2.2.2.2 = []
  · exact vx_runS ⟨C.1, C.2.1, C.2.2.1, C.2.2.2.1, C.2.2.2.2.1⟩ hM ⟨callB_of M2.2.2.2.2.1 C.2.2.2.2.1 (am_ws_in hI) (ws' := am_good) (bytes := M2.2.1) (maxL := M2.2.2.1) (ret := M2.2.2.2.1) (by unfold am_ws am_cw; rw [if_pos hh]) rfl rfl (C.2.2.2.2.1 _ hI.2.1) (C.2.2.2.2.1 _ hlink) (am_hd2 hI) (am_hRm hI), C.2.2.2.2.1 _ hstat⟩ ⟨am_Pc_blind, am_Pc_at C.ev hw hV⟩ rfl (by rw [List.length_reverse]; have := am_sl_len s1; rw [List.length_reverse] at this; omega) hl.1 (by show _ = m1.reverse.reverse ++ m2; rw [List.reverse_reverse]) (lv_room (by rw [am_sl_catsum s2]; exact hcat)) hdg (am_room hm hC2.1 hmr)
  · refine vx_runSX (hh := M2.2.2.2.2.2) ⟨C.1, C.2.1, C.2.2.1, C.2.2.2.1, C.2.2.2.2.1⟩ hM (bytes := M2.2.1) (maxL := M2.2.2.1) (ret := M2.2.2.2.1) (n := M2.2.2.2.2.1) ⟨⟨rfl, rfl, (am_hRm hI).1, (am_hRm hI).2, pay_in C.2.2.2.2.1 (am_ws_in hI), ?_⟩, ?_, C.2.2.2.2.1 _ hI.2.1, ⟨hI.2.2.1, hI.2.2.2.1⟩, fun sig h2 => ?_, C.2.2.2.2.1 _ hlink, C.2.2.2.2.1 _ hstat⟩ ⟨am_Pc_blind, am_Pc_at C.ev hw hV⟩ rfl (by rw [List.length_reverse]; have := am_sl_len s1; rw [List.length_reverse] at this; omega) hl.1 (by show _ = m1.reverse.reverse ++ m2; rw [List.reverse_reverse]) (lv_room (by rw [am_sl_catsum s2]; exact hcat)) hdg (am_room hm hC2.1 hmr)
    · have e9 : am_cw M2 = Cond.codeWith M2.1 M2.2.1 M2.2.2.1 M2.2.2.2.1 M2.2.2.2.2.2 := by unfold am_cw; rw [if_neg hh]
      rw [← e9]
      exact List.mem_cons_self
    · have e9 : am_cw M2 = Cond.codeWith M2.1 M2.2.1 M2.2.2.1 M2.2.2.2.1 M2.2.2.2.2.2 := by unfold am_cw; rw [if_neg hh]
      rw [← e9]
      exact C.2.2.2.2.1 _ hI.1
    · have h3 := hI.2.2.2.2.1
      rw [h2] at h3
      exact (Option.some.inj h3).symm
theorem am_recv {p : Program} {l : Launch} {s : State} {m : MethodId} {args : Array Value} {meth : Method} {c : Code} {M : am_M} {G : va_G} {yc : Nat → ClassId} {q : Nat → Nat} {n0 : Nat} {sc : Nat × (Nat → Int)} (C : am_Cx p l s m args meth c M G yc q n0 sc) {ad : Nat → Nat} {H : Heap} (hw : am_in2 G yc n0 ad h H) {a ci N : Nat} {Cn : String} {T : u_T} {ty : Nat → FieldType} (hc : am_CI ci Cn T N ty) (ha : a < hZ h) (ht : hT h a = (0, ci)) : ∃ cellB : Cell, H[ad a]? = some cellB ∧ cellB.vm.isStatics = false ∧ s.vm.findClass Cn = some cellB.cls := by
  have hg := am_w_get (ad := ad) (ys := yc) ha
  rw [am_e_o ht] at hg
  obtain ⟨x, hx, cell, q1, q2, q3, q4⟩ := hw.1 a _ hg
  have h9 := (C.ev.1.1 ci _ hc.1).2
  exact ⟨cell, q1, by rw [q3]; rfl, by rw [q2]; exact h9.1⟩
theorem am_virt {p : Program} {e : Env} {s : State} {m : MethodId} {args' : Array Value} {below : List Frame} {meth : Method} {c : Code} {G : va_G} {yc : Nat → ClassId} {q : Nat → Nat} {n0 : Nat} (hI : am_MI M2) (C : am_Cx p l s m args' meth c M G yc q n0 sc) (hlink : Cond.methodLink M.1.cls idx M2.1 ∈ am_good) (hinst : Cond.instanceMethod M2.1 ∈ am_good) (hsel : Cond.selects M2.1.cls M2.1 M2.1 ∈ am_good) (hh : M2.2.2.2.2.2 = []) (hdg : decode M.2.1 pc = .ok (.invokevirtual idx, 3)) {H : Heap} {locs : List Loc} {ad : Nat → Nat} {lsA : Array Slot} {b : Nat} {As m2 : List Value} {cells slots mc ms kc ks : Nat} (hw : am_in2 G yc n0 ad h H) (hV : va_S (am_A n0) s.heap H locs) (hl : lsA.size = M.2.2.1) (hcell : ∃ cellB : Cell, H[b]? = some cellB ∧ cellB.vm.isStatics = false ∧ s.vm.findClass M2.1.cls = some cellB.cls)
    (hM : vx_Met l M2.1 (am_ws M2) (am_rm d mc ms) (am_Pc G yc q n0 sc ad (.ref b :: As) h) (am_Qc G yc q n0 ad M2.2.2.2.1 h (r1, h1)) (am_XC G yc n0 ad h (r1, h1)) mc ms (am_A n0)) (hlen : As.length = M2.2.2.2.2.1) (hroom : (m2.map fun v => v.category).sum ≤ 8) (hf : cells + mc ≤ (am_rm (d + 1) kc ks).cells ∧ slots + ms ≤ (am_rm (d + 1) kc ks).slots) :
    vx_Run p l e (am_rm (d + 1) kc ks) s m args' below meth c H locs cells slots mc ms (F0 m pc lsA (As.reverse ++ .ref b :: m2)) m2 (am_Qc G yc q n0 ad M2.2.2.2.1 h (r1, h1) (Value.ref b :: As).toArray) (am_XC G yc n0 ad h (r1, h1)) (am_A n0) :=
  vx_runV (C := M2.1.cls) ⟨C.1, C.2.1, C.2.2.1, C.2.2.2.1, C.2.2.2.2.1⟩ hM ⟨callB_of M2.2.2.2.2.1 C.2.2.2.2.1 (am_ws_in hI) (ws' := am_good) (bytes := M2.2.1) (maxL := M2.2.2.1) (ret := M2.2.2.2.1) (by unfold am_ws am_cw; rw [if_pos hh]) rfl rfl (C.2.2.2.2.1 _ hI.2.1) (C.2.2.2.2.1 _ hlink) (am_hd2 hI) (am_hRm hI), C.2.2.2.2.1 _ hinst, C.2.2.2.2.1 _ hsel⟩ ⟨am_Pc_blind, hcell, am_Pc_at C.ev hw hV⟩ rfl hlen hl rfl (lv_room hroom) hdg hf
theorem am_s_virt {a ci N : Nat} {As : List am_V} {T : u_T} {ty : Nat → FieldType} (hc : am_CI ci M2.1.cls T N ty) (ht : hT h a = (0, ci)) (hI : am_MI M2) (hC2 : am_CT l sc d M2 (Vr (some a) :: As) h (r1, h1)) (hlink : Cond.methodLink M.1.cls idx M2.1 ∈ am_good) (hinst : Cond.instanceMethod M2.1 ∈ am_good) (hsel : Cond.selects M2.1.cls M2.1 M2.1 ∈ am_good) (hh : M2.2.2.2.2.2 = []) (hargs : (Vr (some a) :: As).all am_nl = true) (hlen : As.length = M2.2.2.2.2.1) (hcat : (rest0.map am_cat).sum ≤ 8) (hx : am_cst) (hdg : decode M.2.1 pc = .ok (.invokevirtual idx, 3))
    (hn : am_nxt l sc d M M2 cd hd pc ls rest0 r1 h1 r) : am_P l sc (d + 1) M pc ls ((Vr (some a) :: As).reverse ++ rest0) h r := by
  obtain ⟨hret, hthr, hhr, hmr⟩ := hn
  refine ⟨hC2.1.tr hmr, fun p e s m args' below meth c G yc q n0 h0 ad0 C hm H locs ad lsA stA ha hw hV hl hs hlk hsk => ?_⟩
  obtain ⟨m1, m2, rfl, s1, s2⟩ := am_sl_app hs
  obtain ⟨k1, k2⟩ := am_lk_app hsk
  have s3 := am_sl_rev s1
  have k3 := am_lk_rev k1
  rw [List.reverse_reverse] at s3 k3
  obtain ⟨mA, e3, s4⟩ := am_sl_r s3
  have e3 : m1.reverse = Value.ref (ad a) :: mA := e3
  have hM := hC2.2 G yc q n0 ad m1.reverse s3 hargs k3
  rw [e3] at hM
  refine am_cont (M2 := M2) hC2.1 hret hthr hhr hx hmr C hm ha hV hl s2 hlk k2 (a := (Value.ref (ad a) :: mA).toArray) ?_
  have e4 : m1 ++ m2 = mA.reverse ++ Value.ref (ad a) :: m2 := by
    have := congrArg List.reverse e3
    rw [List.reverse_reverse, List.reverse_cons] at this
    rw [this, List.append_assoc]
    rfl
  rw [e4]
  exact am_virt hI C hlink hinst hsel hh hdg hw hV hl.1 (am_recv C hw hc (am_lk_h k3) ht) hM ((am_sl_len s4).trans hlen) (by rw [am_sl_catsum s2]; exact hcat) (am_room hm hC2.1 hmr)
theorem am_s_vstr {j : Nat} {As : List am_V} (hj : j < 23) (hcls : M2.1.cls = "java/lang/String") (hI : am_MI M2) (hC2 : am_CT l sc d M2 (Vx (j + 2) :: As) h (r1, h1)) (hlink : Cond.methodLink M.1.cls idx M2.1 ∈ am_good) (hinst : Cond.instanceMethod M2.1 ∈ am_good) (hsel : Cond.selects M2.1.cls M2.1 M2.1 ∈ am_good) (hh : M2.2.2.2.2.2 = []) (hargs : (Vx (j + 2) :: As).all am_nl = true) (hlen : As.length = M2.2.2.2.2.1) (hcat : (rest0.map am_cat).sum ≤ 8) (hx : am_cst) (hdg : decode M.2.1 pc = .ok (.invokevirtual idx, 3))
    (hn : am_nxt l sc d M M2 cd hd pc ls rest0 r1 h1 r) : am_P l sc (d + 1) M pc ls ((Vx (j + 2) :: As).reverse ++ rest0) h r := by
  obtain ⟨hret, hthr, hhr, hmr⟩ := hn
  refine ⟨hC2.1.tr hmr, fun p e s m args' below meth c G yc q n0 h0 ad0 C hm H locs ad lsA stA ha hw hV hl hs hlk hsk => ?_⟩
  obtain ⟨m1, m2, rfl, s1, s2⟩ := am_sl_app hs
  obtain ⟨k1, k2⟩ := am_lk_app hsk
  have s3 := am_sl_rev s1
  have k3 := am_lk_rev k1
  rw [List.reverse_reverse] at s3 k3
  obtain ⟨mA, e3, s4⟩ := am_sl_x (k := j + 1) s3
  have hM := hC2.2 G yc q n0 ad m1.reverse s3 hargs k3
  rw [e3] at hM
  refine am_cont (M2 := M2) hC2.1 hret hthr hhr hx hmr C hm ha hV hl s2 hlk k2 (a := (Value.ref (q (j + 1 + 1)) :: mA).toArray) ?_
  have e4 : m1 ++ m2 = mA.reverse ++ Value.ref (q (j + 1 + 1)) :: m2 := by
    have := congrArg List.reverse e3
    rw [List.reverse_reverse, List.reverse_cons] at this
    rw [this, List.append_assoc]
    rfl
  rw [e4]
  obtain ⟨cell, o1, o2, o3, -⟩ := ((C.ev.2.1 j hj).1).kept hV.2.1
  exact am_virt hI C hlink hinst hsel hh hdg hw hV hl.1 ⟨cell, o1, o2, by rw [hcls]; exact o3⟩ hM ((am_sl_len s4).trans hlen) (by rw [am_sl_catsum s2]; exact hcat) (am_room hm hC2.1 hmr)
/-- a constructor -/
theorem am_s_init {a ci N : Nat} {As : List am_V} {T : u_T} {ty : Nat → FieldType} {v : am_V} (hc : am_CI ci M2.1.cls T N ty) (ht : hT h a = (0, ci)) (hI : am_MI M2) (hC2 : am_CT l sc d M2 (Vr (some a) :: As) h (.inl v, h1)) (hlink : Cond.methodLink M.1.cls idx M2.1 ∈ am_good ∨ ∃ host, Cond.methodLinkNest M.1.cls idx M2.1 host ∈ lw_tbl) (hinst : Cond.instanceMethod M2.1 ∈ am_good) (hnm : M2.1.name = "<init>") (hrt : M2.2.2.2.1 = none) (hh : M2.2.2.2.2.2 = []) (hargs : (Vr (some a) :: As).all am_nl = true) (hlen : As.length = M2.2.2.2.2.1) (hcat : (rest0.map am_cat).sum ≤ 8) (hdg : decode M.2.1 pc = .ok (.invokespecial idx, 3))
    (hret : am_P l sc (d + 1) M (pc + 3) ls rest0 h1 r) : am_P l sc (d + 1) M pc ls ((Vr (some a) :: As).reverse ++ rest0) h r := by
  have hmr := hret.1
  refine ⟨hC2.1.tr hmr, fun p e s m args' below meth c G yc q n0 h0 ad0 C hm H locs ad lsA stA ha hw hV hl hs hlk hsk => ?_⟩
  obtain ⟨m1, m2, rfl, s1, s2⟩ := am_sl_app hs
  obtain ⟨k1, k2⟩ := am_lk_app hsk
  have s3 := am_sl_rev s1
  have k3 := am_lk_rev k1
  rw [List.reverse_reverse] at s3 k3
  obtain ⟨mA, e3, s4⟩ := am_sl_r s3
  have e3 : m1.reverse = Value.ref (ad a) :: mA := e3
  have hM := hC2.2 G yc q n0 ad m1.reverse s3 hargs k3
  rw [e3] at hM
  have hM := am_met hM (fun E st t ⟨k, ad1, g1, _⟩ => nomatch g1)
  have e4 : m1 ++ m2 = mA.reverse ++ Value.ref (ad a) :: m2 := by
    have := congrArg List.reverse e3
    rw [List.reverse_reverse, List.reverse_cons] at this
    rw [this, List.append_assoc]
    rfl
  rw [e4]
  have hm1 := hC2.1
  have c1 : hC h - hC h0 + (hC h1 - hC h) = hC h1 - hC h0 := by have := hm.1; have : hC h ≤ hC h1 := hm1.1; omega
  have c2 : hS h - hS h0 + (hS h1 - hS h) = hS h1 - hS h0 := by have := hm.2.1; have : hS h ≤ hS h1 := hm1.2.1; omega
  have hrun : va_Run p l e (am_rm (d + 1) (hC r.2 - hC h0) (hS r.2 - hS h0)) s m args' below meth c H locs (hC h - hC h0) (hS h - hS h0) (hC h1 - hC h) (hS h1 - hS h) (F0 m pc lsA (mA.reverse ++ Value.ref (ad a) :: m2)) m2 (am_Qc G yc q n0 ad M2.2.2.2.1 h (.inl v, h1) (Value.ref (ad a) :: mA).toArray) (am_A n0) := by
    have hcw : am_ws M2 = Cond.code M2.1 M2.2.1 M2.2.2.1 none :: am_good := by unfold am_ws am_cw; rw [if_pos hh, hrt]
    rcases hlink with hlink | ⟨host, hlink⟩
    · exact va_runI ⟨C.1, C.2.1, C.2.2.1, C.2.2.2.1, C.2.2.2.2.1⟩ hM (cwI M2.2.2.2.2.1 C.2.2.2.2.1 (am_ws_in hI) hcw rfl rfl (C.2.2.2.2.1 _ hI.2.1) (C.2.2.2.2.1 _ hlink) (C.2.2.2.2.1 _ hinst) hnm (am_hd2 hI) (am_hRm hI)) ⟨am_Pc_blind, am_Pc_at C.ev hw hV⟩ rfl ((am_sl_len s4).trans hlen) hl.1 rfl (lv_room (by rw [am_sl_catsum s2]; exact hcat)) hdg (am_room hm hC2.1 hmr)
    · exact va_runIN ⟨C.1, C.2.1, C.2.2.1, C.2.2.2.1, C.2.2.2.2.1⟩ hM ⟨va_cnB (host := host) M2.2.2.2.2.1 C.2.2.2.2.1 (am_ws_in hI) hcw rfl rfl (C.ev.2.2.2.2.2.2.2.2.2.1 _ hlink rfl) (C.2.2.2.2.1 _ hI.2.1) (am_hd2 hI) (am_hRm hI), hnm, C.2.2.2.2.1 _ hinst⟩ ⟨am_Pc_blind, am_Pc_at C.ev hw hV⟩ rfl ((am_sl_len s4).trans hlen) hl.1 rfl (lv_room (by rw [am_sl_catsum s2]; exact hcat)) hdg (am_room hm hC2.1 hmr)
  refine am_va hrun hV am_Qc_F (fun v' st₀ t H1 locs1 e0 e1 hq hV1 => ?_)
  obtain ⟨v1, ad1, g1, g2, g3, g4, g5, g6, g7⟩ := hq
  cases g1
  cases g4
  rw [hrt] at g2
  have g2 : v = Vx 0 := g2
  subst g2
  rw [e1] at g6
  rw [c1, c2]
  exact hret.2 p e s m args' below meth c G yc q n0 h0 ad0 C (hm.tr hm1) H1 locs1 ad1 lsA _ (fun j hj => (g5 j (Nat.lt_of_lt_of_le hj hm.2.2)).trans (ha j hj)) g6 hV1 (by rw [am_kn_up g5 0 hlk]; exact hl) (am_sl_up g5 k2 s2) (am_lk_up hm1.2.2 hlk) (am_lk_up hm1.2.2 k2)
end
