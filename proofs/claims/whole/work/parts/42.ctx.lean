/-! WHAT STANDS ROUND A RUN: the tables, the literals, the script; a frame; what a run owes -/
def am_A (n0 : Nat) : Nat → Prop := fun q => n0 ≤ q
def am_xn : Nat → String
  | 1 => "java/lang/IllegalArgumentException"
  | 2 => "java/lang/UnsupportedOperationException"
  | 3 => "java/lang/IndexOutOfBoundsException"
  | 4 => "java/util/NoSuchElementException"
  | _ => "java/lang/IllegalStateException"
def am_xw : Jvm.Cond → Bool
  | .castable _ _ => true
  | .declares _ => true
  | .methodLinkNest _ _ _ _ => true
  | _ => false
def am_ys (yc : Nat → ClassId) : List (ClassId × FieldType) := [(yc 1, .int), (yc 2, .boolean), (yc 3, .byte), (yc 4, .long), (yc 5, .object "OldFences$County"), (yc 6, .array .int)]
def am_Ev (G : va_G) (yc : Nat → ClassId) (q : Nat → Nat) (n0 : Nat) (sc : Nat × (Nat → Int)) (U : State) : Prop :=
  va_K G am_cl (am_ys yc) U ∧ (∀ i : Nat, i < 23 → va_O "java/lang/String" (q (i + 2)) (am_A n0) U U.heap ∧ va_OF "java/lang/String" "coder" "B" (.int 0) (q (i + 2)) (am_A n0) U U.heap ∧ va_OF "java/lang/String" "value" "[B" (.ref (q (i + 200))) (q (i + 2)) (am_A n0) U U.heap ∧ va_T .byte (q (i + 200)) (am_lit i).length (fun j => .int (Int32.ofInt ((am_lit i).getD j 0))) (am_A n0) U U.heap) ∧
  (va_X (q 1) sc.1 (fun j => Int32.ofInt (sc.2 j)) U U.heap ∧ q 1 < n0 ∧ sc.1 ≤ 3072 ∧ ∀ j, am_n32 (sc.2 j)) ∧
  va_Z "java/lang/String" "COMPACT_STRINGS" "Z" (.int 1) (am_A n0) U U.heap ∧ va_Zq "jdk/internal/util/Preconditions" "SIOOBE_FORMATTER" "Ljava/util/function/BiFunction;" (am_A n0) U U.heap ∧
  vx_Zq Bundle.tN "UNASSIGNED_STACK" Bundle.steD (am_A n0) U U.heap ∧ vx_Zq Bundle.tN "SUPPRESSED_SENTINEL" Bundle.listD (am_A n0) U U.heap ∧
  (∀ a b, am_xn a ≠ am_xn b → va_Nc (am_xn a) (am_xn b) U) ∧ (∀ own k tx, Cond.stringRef own k tx ∈ lw_tbl → ∀ j, am_ltx.getD j "" = tx → j < 23 → vk_R own k tx (q (j + 2)) U) ∧
  (∀ w ∈ lw_tbl, am_xw w = true → va_Nw w U) ∧ va_AO "OldFences$County" U ∧ va_AOA .int U ∧ n0 ≤ U.heap.size
theorem va_AOA.moved {t : FieldType} {u U : State} (hvm : u.vm.Alike U.vm) (h : va_AOA t u) : va_AOA t U := by
  have h0 := h
  unfold va_AOA Cond.before Cond.holds at h0
  simp only [Cond.value, beq_iff_eq] at h0
  cases hc : u.vm.findClass (FieldType.array t).toString with
  | none => simp [hc] at h0
  | some comp =>
    simp only [hc, Option.bind_some, Option.bind_eq_some_iff, Option.map_eq_some_iff] at h0
    obtain ⟨c, h2, k, h3, hb⟩ := h0
    obtain ⟨k', hk', he⟩ := hvm.2.2 _ _ h3
    have e1 := va_idx_bare U.vm comp
    have e2 := va_idx_bare u.vm comp
    first | rw [hvm.bare_eq] at e2 | rw [← hvm.bare_eq] at e2
    have hi := (e1.symm.trans e2).trans h2
    have f1 : U.vm.findClass (FieldType.array t).toString = some comp := by rw [hvm.findClass]; exact hc
    unfold va_AOA Cond.before Cond.holds
    simp only [Cond.value]
    rw [f1, Option.bind_some]
    cases hkind : k.kind with
    | array component ty =>
      rw [hkind] at hb
      simp at hb
      have hkind' : k'.kind = .array component ty := by rw [he]; exact hkind
      have f2 : U.vm.findClass ("[" ++ (FieldType.array t).toString) = some c := by rw [hvm.findClass]; exact hb.2
      refine (congrArg (fun o : Option Nat => (o.bind (fun c => (U.vm.classes[c]?).map fun (k : Class) => match k.kind with | .array _ ty => decide (ty = FieldType.array t) && decide (U.vm.findClass ("[" ++ (FieldType.array t).toString) = some c) | _ => false) == some true)) hi).trans ?_
      simp [hk', hkind', f2, hb.1]
    | _ => rw [hkind] at hb; simp at hb
theorem am_xw_tab {w : Jvm.Cond} (h : am_xw w = true) : w.onTables = true := by
  cases w <;> first | rfl | cases h
theorem am_xw_warm {w : Jvm.Cond} (h : am_xw w = true) {s U : State} (hW : s.WarmedH U.vm) (hZ : va_Nw w s) : va_Nw w U := by
  cases w <;> first | exact va_Nw.warmC hW hZ | exact va_Nw.warmD hW hZ | exact va_Nw.warmM hW hZ | cases h
theorem am_Ev.moved {G : va_G} {yc : Nat → ClassId} {q : Nat → Nat} {n0 : Nat} {sc : Nat × (Nat → Int)} {s U : State} (hW : s.WarmedH U.vm) (hz : s.heap.size ≤ U.heap.size) (hk : ∀ a : Nat, a < s.heap.size → ¬ am_A n0 a → U.heap[a]? = s.heap[a]?) (h : am_Ev G yc q n0 sc s) : am_Ev G yc q n0 sc U := by
  obtain ⟨h1, h2, ⟨h3, h3a, h3b, h3c⟩, h4, h5, h6, h7, h8, h9, h10, h11, h12, h13⟩ := h
  have hA := hW.alike
  refine ⟨va_K.moved hA h1, fun i hi => ⟨(va_O.moved hA (h2 i hi).1).kept hk, (va_OF.moved hA (h2 i hi).2.1).kept hk, (va_OF.moved hA (h2 i hi).2.2.1).kept hk, (va_T.moved hA (h2 i hi).2.2.2).kept hk⟩, ⟨(va_X.moved hA h3).kept (hk _ (Nat.lt_of_lt_of_le h3a h13) (by unfold am_A; omega)), h3a, h3b, h3c⟩, (va_Z.moved hA h4).kept hk, (va_Zq.moved hA h5).kept hk, (vx_Zq.moved hA h6).kept hk, (vx_Zq.moved hA h7).kept hk, fun a b hab => va_Nc.moved hA (h8 a b hab), fun own k tx hw j hj hl => vk_R.warm hW (h9 own k tx hw j hj hl), fun w hw hx => am_xw_warm hx hW (h10 w hw hx), va_AO.moved hA h11, va_AOA.moved hA h12, Nat.le_trans h13 hz⟩
/-- the words of a method: its own code, and all good ones of the tables -/
def am_good : List Jvm.Cond := lw_tbl.filter goodWord
theorem am_good_in : GoodIn am_good am_good := fun w h => ⟨h, good_of_word (List.mem_filter.mp h).2⟩
/-- a program's method: its name, its code, what it answers, how many values it takes, its table as the class file has it -/
abbrev am_M : Type := MethodName × ByteArray × Nat × Option FieldType × Nat × List (Nat × Nat × Nat × Nat)
def am_cw (M : am_M) : Jvm.Cond := if M.2.2.2.2.2 = [] then .code M.1 M.2.1 M.2.2.1 M.2.2.2.1 else .codeWith M.1 M.2.1 M.2.2.1 M.2.2.2.1 M.2.2.2.2.2
def am_ws (M : am_M) : List Jvm.Cond := am_cw M :: am_good
def am_rm (d mc ms : Nat) : Room := { frames := d + 10, cells := mc, slots := ms, locals := (d + 1) * 60 + 200 }
def am_rt (rt : Option FieldType) (v : am_V) : Prop := match rt with
  | none => v = Vx 0
  | some .int => ∃ x, v = Vi x
  | some .boolean => ∃ x, v = Vi x
  | some .char => ∃ x, v = Vi x
  | some .byte => ∃ x, v = Vi x
  | some _ => ∃ a, v = Vr (some a)
def am_mono (h h1 : am_H) : Prop := hC h ≤ hC h1 ∧ hS h ≤ hS h1 ∧ hZ h ≤ hZ h1
theorem am_mono.rf (h : am_H) : am_mono h h := ⟨Nat.le_refl _, Nat.le_refl _, Nat.le_refl _⟩
theorem am_mono.tr {h h1 h2 : am_H} (a : am_mono h h1) (b : am_mono h1 h2) : am_mono h h2 := ⟨Nat.le_trans a.1 b.1, Nat.le_trans a.2.1 b.2.1, Nat.le_trans a.2.2 b.2.2⟩
/-- the heap h lies in H, by the addresses ad -/
def am_in2 (G : va_G) (yc : Nat → ClassId) (n0 : Nat) (ad : Nat → Nat) (h : am_H) (H : Heap) : Prop := va_P G am_cl (am_w ad yc h) H ∧ va_D (am_A n0) (am_w ad yc h) ∧ am_hk h
def am_Pc (G : va_G) (yc : Nat → ClassId) (q : Nat → Nat) (n0 : Nat) (sc : Nat × (Nat → Int)) (ad : Nat → Nat) (vals : List Value) (h : am_H) : Array Value → State → Prop := fun a U =>
  a = vals.toArray ∧ am_in2 G yc n0 ad h U.heap ∧ am_Ev G yc q n0 sc U
def am_Qc (G : va_G) (yc : Nat → ClassId) (q : Nat → Nat) (n0 : Nat) (ad : Nat → Nat) (rt : Option FieldType) (h : am_H) (r : (am_V ⊕ Nat) × am_H) : Array Value → State → Outcome → State → Prop := fun _ st o t =>
  ∃ (v : am_V) (ad1 : Nat → Nat), r.1 = .inl v ∧ am_rt rt v ∧ am_vk r.2 v ∧ o = .returned (am_val ad1 q v) ∧ (∀ k, k < hZ h → ad1 k = ad k) ∧ am_in2 G yc n0 ad1 r.2 t.heap ∧ va_F (am_A n0) st t
def am_XC (G : va_G) (yc : Nat → ClassId) (n0 : Nat) (ad : Nat → Nat) (h : am_H) (r : (am_V ⊕ Nat) × am_H) : String → State → State → Prop := fun E st t =>
  ∃ (k : Nat) (ad1 : Nat → Nat), r.1 = .inr k ∧ (1 ≤ k ∧ k ≤ 5) ∧ E = am_xn k ∧ (∀ k, k < hZ h → ad1 k = ad k) ∧ am_in2 G yc n0 ad1 r.2 t.heap ∧ va_F (am_A n0) st t
/-- what a call of M comes to, at a depth d -/
def am_CT (l : Launch) (sc : Nat × (Nat → Int)) (d : Nat) (M : am_M) (args : List am_V) (h : am_H) (r : (am_V ⊕ Nat) × am_H) : Prop :=
  am_mono h r.2 ∧ ∀ (G : va_G) (yc : Nat → ClassId) (q : Nat → Nat) (n0 : Nat) (ad : Nat → Nat) (vals : List Value), am_sl ad q args vals → args.all am_nl = true → am_lk2 h args →
    vx_Met l M.1 (am_ws M) (am_rm d (hC r.2 - hC h) (hS r.2 - hS h)) (am_Pc G yc q n0 sc ad vals h) (am_Qc G yc q n0 ad M.2.2.2.1 h r) (am_XC G yc n0 ad h r) (hC r.2 - hC h) (hS r.2 - hS h) (am_A n0)
/-- a frame of the method M -/
def am_Cx (p : Program) (l : Launch) (s : State) (m : MethodId) (args : Array Value) (meth : Method) (c : Code) (M : am_M) (G : va_G) (yc : Nat → ClassId) (q : Nat → Nat) (n0 : Nat) (sc : Nat × (Nat → Int)) : Prop :=
  p.tables.exec = Jvm.exec ∧ c.code = M.2.1 ∧ c.maxLocals = M.2.2.1 ∧ s.vm.findClass M.1.cls = some m.cls ∧ (∀ w ∈ am_good, w.before args s = true) ∧ meth.locks = false ∧ meth.sig.returnType = M.2.2.2.1 ∧ meth.name = M.1.name ∧ c.exceptionTable.toList = tableOf M.2.2.2.2.2 ∧ l.stackTraces = false ∧ am_Ev G yc q n0 sc s
/-- a run that goes on at pc with ls and st over h and comes to r does so in the machine: in every frame that was entered with h0 -/
def am_P (l : Launch) (sc : Nat × (Nat → Int)) (d : Nat) (M : am_M) (pc : Nat) (ls st : List am_V) (h : am_H) (r : (am_V ⊕ Nat) × am_H) : Prop :=
  am_mono h r.2 ∧ ∀ (p : Program) (e : Env) (s : State) (m : MethodId) (args : Array Value) (below : List Frame) (meth : Method) (c : Code) (G : va_G) (yc : Nat → ClassId) (q : Nat → Nat) (n0 : Nat) (h0 : am_H) (ad0 : Nat → Nat), am_Cx p l s m args meth c M G yc q n0 sc → am_mono h0 h →
    ∀ (H : Heap) (locs : List Loc) (ad : Nat → Nat) (lsA : Array Slot) (stA : List Value), (∀ k, k < hZ h0 → ad k = ad0 k) → am_in2 G yc n0 ad h H → va_S (am_A n0) s.heap H locs → lv_has lsA M.2.2.1 (am_kn ad q 0 ls) → am_sl ad q st stA → am_lk2 h ls → am_lk2 h st →
      W p l e (am_rm d (hC r.2 - hC h0) (hS r.2 - hS h0)) s m args below meth c H locs (hC h - hC h0) (hS h - hS h0) (vx_MQ below (am_Qc G yc q n0 ad0 M.2.2.2.1 h0 r) (am_XC G yc n0 ad0 h0 r) args s (hC r.2 - hC h0) (hS r.2 - hS h0) (am_A n0)) (F0 m pc lsA stA)
