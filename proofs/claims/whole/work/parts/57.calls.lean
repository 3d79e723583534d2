/-! STEPS: calls -/
theorem am_sl_app {ad q : Nat → Nat} : ∀ {l1 l2 : List am_V} {m : List Value}, am_sl ad q (l1 ++ l2) m → ∃ m1 m2, m = m1 ++ m2 ∧ am_sl ad q l1 m1 ∧ am_sl ad q l2 m2
  | [], _, m, h => ⟨[], m, rfl, trivial, h⟩
  | v :: l1, l2, [], h => h.elim
  | v :: l1, l2, x :: m, h => by
    obtain ⟨m1, m2, e, h1, h2⟩ := am_sl_app (l1 := l1) h.2
    exact ⟨x :: m1, m2, by rw [e]; rfl, ⟨h.1, h1⟩, h2⟩
theorem am_sl_cat {ad q : Nat → Nat} : ∀ {l1 l2 : List am_V} {m1 m2 : List Value}, am_sl ad q l1 m1 → am_sl ad q l2 m2 → am_sl ad q (l1 ++ l2) (m1 ++ m2)
  | [], _, [], _, _, h => h
  | [], _, _ :: _, _, h, _ => h.elim
  | _ :: _, _, [], _, h, _ => h.elim
  | v :: l1, l2, x :: m1, m2, h, h2 => ⟨h.1, am_sl_cat (l1 := l1) h.2 h2⟩
theorem am_sl_rev {ad q : Nat → Nat} : ∀ {l : List am_V} {m : List Value}, am_sl ad q l m → am_sl ad q l.reverse m.reverse
  | [], [], _ => trivial
  | [], _ :: _, h => h.elim
  | _ :: _, [], h => h.elim
  | v :: l, x :: m, h => by
    rw [List.reverse_cons, List.reverse_cons]
    exact am_sl_cat (am_sl_rev (l := l) h.2) ⟨h.1, trivial⟩
theorem am_sl_len {ad q : Nat → Nat} : ∀ {l : List am_V} {m : List Value}, am_sl ad q l m → m.length = l.length
  | [], [], _ => rfl
  | [], _ :: _, h => h.elim
  | _ :: _, [], h => h.elim
  | v :: l, x :: m, h => by rw [List.length_cons, List.length_cons, am_sl_len (l := l) h.2]
theorem am_sl_catsum {ad q : Nat → Nat} : ∀ {st : List am_V} {m1 : List Value}, am_sl ad q st m1 → (m1.map fun v => v.category).sum = (st.map am_cat).sum
  | [], m, h => by rw [am_sl_n h]; rfl
  | v :: st, [], h => h.elim
  | v :: st, x :: m1, h => by
    have e : x.category = am_cat v := by
      have hx := h.1
      rcases v with y | ((_ | b) | (y | (_ | k)))
      · rw [show x = .int _ from hx]; rfl
      · rw [show x = .null from hx]; rfl
      · rw [show x = .ref _ from hx]; rfl
      · rw [show x = .long _ from hx]; rfl
      · rcases hx with rfl | ⟨z, rfl⟩ <;> rfl
      · rw [show x = .ref _ from hx]; rfl
    rw [List.map_cons, List.map_cons, List.sum_cons, List.sum_cons, e, am_sl_catsum (st := st) h.2]
theorem am_lk_app {h : am_H} {l1 l2 : List am_V} (hl : am_lk2 h (l1 ++ l2)) : am_lk2 h l1 ∧ am_lk2 h l2 := ⟨fun v hv => hl v (List.mem_append_left _ hv), fun v hv => hl v (List.mem_append_right _ hv)⟩
theorem am_lk_rev {h : am_H} {l : List am_V} (hl : am_lk2 h l) : am_lk2 h l.reverse := fun v hv => hl v (List.mem_reverse.mp hv)
theorem am_Pc_blind {G : va_G} {yc : Nat → ClassId} {q : Nat → Nat} {n0 : Nat} {sc : Nat × (Nat → Int)} {ad : Nat → Nat} {vals : List Value} {h : am_H} : FrameBlind (am_Pc G yc q n0 sc ad vals h) := fun a U g mk ⟨e, hw, hE⟩ =>
  ⟨e, hw, am_Ev.moved (U := U.calling g mk a) (State.WarmedH.refl U) (Nat.le_refl _) (fun _ _ _ => rfl) hE⟩
theorem am_Pc_at {G : va_G} {yc : Nat → ClassId} {q : Nat → Nat} {n0 : Nat} {sc : Nat × (Nat → Int)} {ad : Nat → Nat} {vals : List Value} {h : am_H} {s : State} {H : Heap} {locs : List Loc} (hE : am_Ev G yc q n0 sc s) (hw : am_in2 G yc n0 ad h H) (hV : va_S (am_A n0) s.heap H locs) : ∀ U : State, U.heap = H → s.WarmedH U.vm → am_Pc G yc q n0 sc ad vals h vals.toArray U := fun U hU hW =>
  ⟨rfl, by rw [hU]; exact hw, am_Ev.moved hW (by rw [hU]; exact hV.1) (fun a h1 h2 => by rw [hU]; exact hV.2.1 a h1 h2) hE⟩
theorem am_met {l : Launch} {y : MethodName} {ws : List Jvm.Cond} {rm : Room} {Pc : Array Value → State → Prop} {Qc : Array Value → State → Outcome → State → Prop} {XC : String → State → State → Prop} {mc ms : Nat} {free : Addr → Prop} (h : vx_Met l y ws rm Pc Qc XC mc ms free) (hx : ∀ E st t, ¬ XC E st t) : Met l y ws rm Pc Qc mc ms free := by
  intro p e h1 h2 h3 s m args below h4 h5 h6 h7
  obtain ⟨n, o, a1, a2, a3, a4⟩ := h p e h1 h2 h3 s m args below h4 h5 h6 h7
  rcases a4 with a4 | ⟨q, -, E, ce, L, hX, -⟩
  · exact ⟨n, o, a1, a2, a3, a4⟩
  · exact absurd hX (hx _ _ _)
/-- what is known of a method that is called: its code is among the words, its descriptor, its room -/
def am_MI (M : am_M) : Prop := am_cw M ∈ am_good ∧ Cond.initialized M.1.cls ∈ am_good ∧ M.1.cls ≠ "java/lang/invoke/MethodHandle" ∧ M.1.cls ≠ "java/lang/invoke/VarHandle" ∧ (parseMethodDescriptor M.1.desc).map (fun d => d.parameters.length) = some M.2.2.2.2.1 ∧ M.2.2.1 ≤ 40 ∧ plainFor M.1 = true
theorem am_ws_in {M : am_M} (h : am_MI M) : GoodIn am_good (am_ws M) := fun w hw => by
  rcases List.mem_cons.mp hw with rfl | hw
  · exact am_good_in _ h.1
  · exact am_good_in w hw
section
variable {p : Program} {l : Launch} {e : Env} {R : Room} {s : State} {m : MethodId} {args : Array Value} {below : List Frame} {meth : Method} {c : Code} {H : Heap} {locs : List Loc} {cells slots mc ms : Nat} {Q : State → Prop} {pc : Nat} {ls : Array Slot} {st0 rest : List Value} {n0 : Nat}
theorem am_vx {Qa : State → Outcome → State → Prop} {XC : String → State → State → Prop} (hr : vx_Run p l e R s m args below meth c H locs cells slots mc ms (F0 m pc ls st0) rest Qa XC (am_A n0)) (hV : va_S (am_A n0) s.heap H locs) (hF : ∀ st o t, Qa st o t → va_F (am_A n0) st t) (hX : ∀ E st t, XC E st t → va_F (am_A n0) st t)
    (kk : ∀ (v : Option Value) (st₀ t : State) (H1 : Heap) (locs1 : List Loc), st₀.heap = H → t.heap = H1 → Qa st₀ (.returned v) t → va_S (am_A n0) s.heap H1 locs1 → W p l e R s m args below meth c H1 locs1 (cells + mc) (slots + ms) Q (F0 m (pc + 3) ls (v.toList ++ rest)))
    (kx : ∀ (E : String) (ce : Cell) (q9 : Addr) (st₀ t : State) (H1 : Heap) (locs1 : List Loc), st₀.heap = H → t.heap = H1 → XC E st₀ t → va_S (am_A n0) s.heap H1 locs1 → H1[q9]? = some ce → ce.vm = .none → s.vm.findClass E = some ce.cls → vx_W p l e R s m args below meth c H1 locs1 (cells + mc) (slots + ms) Q (F0 m pc ls rest) q9) : W p l e R s m args below meth c H locs cells slots Q (F0 m pc ls st0) := by
  intro T hT X
  rcases hr T hT X with ⟨v, st₀, t, T', L, h0, X', hL, e1, e2, hq, st⟩ | ⟨q9, st₀, t, T', L, E, ce, h0, X', hL, e1, e2, hq, hce, hcv, hcl, st⟩
  · obtain ⟨k1, k2, k3⟩ := vx_keep h0 e1 hV (fun _ _ h => h) (fun _ h => h) hL (hF _ _ _ hq)
    obtain ⟨t2, a1, b1⟩ := kk v st₀ t T'.heap (locs ++ L) h0 e1.symm hq k3 T' rfl X'
    exact ⟨t2, st t2 a1, b1⟩
  · obtain ⟨k1, k2, k3⟩ := vx_keep h0 e1 hV (fun _ _ h => h) (fun _ h => h) hL (hX _ _ _ hq)
    obtain ⟨t2, a1, b1⟩ := kx E ce q9 st₀ t T'.heap (locs ++ L) h0 e1.symm hq k3 (by rw [e1]; exact hce) hcv hcl T' rfl X'
    exact ⟨t2, st.trans a1, b1⟩
theorem am_va {Qa : State → Outcome → State → Prop} (hr : va_Run p l e R s m args below meth c H locs cells slots mc ms (F0 m pc ls st0) rest Qa (am_A n0)) (hV : va_S (am_A n0) s.heap H locs) (hF : ∀ st o t, Qa st o t → va_F (am_A n0) st t)
    (kk : ∀ (v : Option Value) (st₀ t : State) (H1 : Heap) (locs1 : List Loc), st₀.heap = H → t.heap = H1 → Qa st₀ (.returned v) t → va_S (am_A n0) s.heap H1 locs1 → W p l e R s m args below meth c H1 locs1 (cells + mc) (slots + ms) Q (F0 m (pc + 3) ls (v.toList ++ rest))) : W p l e R s m args below meth c H locs cells slots Q (F0 m pc ls st0) := by
  intro T hT X
  obtain ⟨v, st₀, t, T', L, h0, X', hL, e1, e2, hq, st⟩ := hr T hT X
  obtain ⟨k1, k2, k3⟩ := vx_keep h0 e1 hV (fun _ _ h => h) (fun _ h => h) hL (hF _ _ _ hq)
  obtain ⟨t2, a1, b1⟩ := kk v st₀ t T'.heap (locs ++ L) h0 e1.symm hq k3 T' rfl X'
  exact ⟨t2, st t2 a1, b1⟩
end
/-- a method's handlers: as the class file has them, and as the machine has them (the class by a number, the entry) -/
def am_hr (own : String) (cd : List am_E) : List (Nat × Nat × Nat × Nat) → List (Nat × Nat × Nat × Nat) → Prop
  | [], [] => True
  | x :: hd, y :: hh => (x.1 = y.1 ∧ x.2.1 = y.2.1 ∧ (cd[x.2.2.2]?).map (fun e => e.1) = some y.2.2.1 ∧ y.2.2.2 ≠ 0 ∧ (1 ≤ x.2.2.1 ∧ x.2.2.1 ≤ 5) ∧ Cond.classLink own y.2.2.2 (am_xn x.2.2.1) ∈ am_good) ∧ am_hr own cd hd hh
  | _, _ => False
theorem am_xn_inj : ∀ a, a < 6 → ∀ b, b < 6 → 1 ≤ a → 1 ≤ b → am_xn a = am_xn b → a = b := by decide +kernel
theorem am_hr_find {own : String} {cd : List am_E} {pc e : Nat} (he : 1 ≤ e ∧ e ≤ 5) : ∀ {hd hh : List (Nat × Nat × Nat × Nat)}, am_hr own cd hd hh →
    (am_find hd pc e = none → ∀ z ∈ tableOf hh, covers z pc = false ∨ (z.catchType ≠ 0 ∧ ∃ a, Cond.classLink own z.catchType (am_xn a) ∈ am_good ∧ am_xn e ≠ am_xn a)) ∧
    ∀ t, am_find hd pc e = some t → ∃ pre x suf, tableOf hh = pre ++ x :: suf ∧ (∀ z ∈ pre, covers z pc = false ∨ (z.catchType ≠ 0 ∧ ∃ a, Cond.classLink own z.catchType (am_xn a) ∈ am_good ∧ am_xn e ≠ am_xn a)) ∧ covers x pc = true ∧ x.catchType ≠ 0 ∧ Cond.classLink own x.catchType (am_xn e) ∈ am_good ∧ (cd[t]?).map (fun e => e.1) = some x.handlerPc
  | [], [], _ => ⟨(fun _ z hz => nomatch hz), (fun t ht => nomatch ht)⟩
  | [], _ :: _, h => h.elim
  | _ :: _, [], h => h.elim
  | x :: hd, y :: hh, h => by
    obtain ⟨⟨h1, h2, h3, h4, h5, h6⟩, hr⟩ := h
    obtain ⟨ih1, ih2⟩ := am_hr_find (own := own) (cd := cd) (pc := pc) he hr
    obtain ⟨xa, xb, xc, xt⟩ := x
    obtain ⟨ya, yb, yp, yk⟩ := y
    dsimp only at h1 h2 h3 h4 h5 h6
    subst h1; subst h2
    have hskip : ¬ (xa ≤ pc ∧ pc < xb ∧ xc = e) → covers ⟨xa, xb, yp, yk⟩ pc = false ∨ ((⟨xa, xb, yp, yk⟩ : ExceptionTableEntry).catchType ≠ 0 ∧ ∃ a, Cond.classLink own yk (am_xn a) ∈ am_good ∧ am_xn e ≠ am_xn a) := by
      intro hn
      by_cases hcv : xa ≤ pc ∧ pc < xb
      · refine Or.inr ⟨h4, xc, h6, fun heq => hn ⟨hcv.1, hcv.2, ?_⟩⟩
        exact (am_xn_inj e (by omega) xc (by omega) he.1 h5.1 heq).symm
      · refine Or.inl ?_
        simp only [covers, Bool.and_eq_false_iff, decide_eq_false_iff_not]
        omega
    constructor
    · intro hf z hz
      unfold am_find at hf
      split at hf
      · cases hf
      · rename_i hn
        rcases List.mem_cons.mp hz with rfl | hz
        · exact hskip hn
        · exact ih1 hf z hz
    · intro t hf
      unfold am_find at hf
      split at hf
      · rename_i hy
        cases hf
        refine ⟨[], ⟨xa, xb, yp, yk⟩, tableOf hh, rfl, (fun z hz => nomatch hz), ?_, h4, by rw [← hy.2.2]; exact h6, h3⟩
        simp only [covers, Bool.and_eq_true, decide_eq_true_eq]
        exact ⟨hy.1, hy.2.1⟩
      · rename_i hn
        obtain ⟨pre, x, suf, e1, e2, e3⟩ := ih2 t hf
        refine ⟨⟨xa, xb, yp, yk⟩ :: pre, x, suf, by rw [List.cons_append, ← e1]; rfl, fun z hz => ?_, e3⟩
        rcases List.mem_cons.mp hz with rfl | hz
        · exact hskip hn
        · exact e2 z hz
