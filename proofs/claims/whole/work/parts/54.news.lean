/-! STEPS: what is made, literals, statics, the script -/
theorem am_lit_ok : ∀ i, i < 23 → ((am_lit i).length < 1000 ∧ ∀ b ∈ am_lit i, (0 : Int) ≤ b ∧ b ≤ 127) := by decide +kernel
theorem am_lit_at {i j : Nat} (hi : i < 23) : (0 : Int) ≤ (am_lit i).getD j 0 ∧ (am_lit i).getD j 0 ≤ 127 := by
  have h := (am_lit_ok i hi).2
  by_cases hj : j < (am_lit i).length
  · have e : (am_lit i).getD j 0 = (am_lit i)[j] := by simp [List.getD, hj]
    rw [e]
    exact h _ (List.getElem_mem hj)
  · have e : (am_lit i).getD j 0 = 0 := by simp [List.getD, Nat.not_lt.mp hj]
    rw [e]
    omega
theorem am_ldcwS {p : Program} {l : Launch} {e : Env} {R : Room} {s : State} {m : MethodId} {args : Array Value} {below : List Frame} {meth : Method} {c : Code} {T : State} {locs : List Loc} {cells slots : Nat}
    (X : Stand p l e R s m args below meth c T locs cells slots) (hexec : p.tables.exec = Jvm.exec) {own text : String} {index : Nat} {a : Addr} (hown : s.vm.findClass own = some m.cls)
    (hconst : (Cond.stringRef own index text).before args s = true) (hev : (Term.string own index).eval args s none [] s = some (.ref a)) {g : JFrame} (hg : g.method = m) (hdg : decode c.code g.pc = .ok (.ldc_w index, 3)) :
    ∀ target, Steps p.tables e below (T.setTop { g with pc := g.pc + 3, stack := .ref a :: g.stack }) target → Steps p.tables e below (T.setTop g) target := by
  obtain ⟨k, cf, i, a', hk, hcf, hcp, -, hr, hev'⟩ := Cond.stringRef_spec hown hconst
  cases hev.symm.trans hev'
  obtain ⟨k', hk', he⟩ := X.warmed.alike.2.2 _ _ hk
  have hr' : k'.resolved[index]? = some (some (.string a)) := by
    rcases X.warmed.entry hk hk' index with h | ⟨h, -⟩
    · rw [h]; exact hr
    · rw [hr] at h; cases h
  intro target hrest
  subst hg
  jvm_step X.here [hexec, hdg, ldc_w.wp_string (e := e) (s := T) (f := g) X.here.top hk' (by rw [he]; exact hcf) hcp hr']
  exact hrest
theorem am_Ev.str {G : va_G} {yc : Nat → ClassId} {q : Nat → Nat} {n0 : Nat} {sc : Nat × (Nat → Int)} {U : State} (h : am_Ev G yc q n0 sc U) {own : String} {k j : Nat} {tx : String} (hc : Cond.stringRef own k tx ∈ lw_tbl) (hj : am_ltx.getD j "" = tx) (hj2 : j < 23) : vk_R own k tx (q (j + 2)) U := h.2.2.2.2.2.2.2.2.1 own k tx hc j hj hj2
section
variable {l : Launch} {sc : Nat × (Nat → Int)} {d : Nat} {M : am_M} {r : (am_V ⊕ Nat) × am_H} {pc : Nat} {ls st : List am_V} {h : am_H}
theorem am_s_ldcwS {i j : Nat} {tx : String} (hc : Cond.stringRef M.1.cls i tx ∈ lw_tbl) (hj : am_ltx.getD j "" = tx) (hj2 : j < 23) (hd : decode M.2.1 pc = .ok (.ldc_w i, 3)) (k : am_P l sc d M (pc + 3) ls (Vx (j + 2) :: st) h r) : am_P l sc d M pc ls st h r := by
  refine am_stk k (fun {p e R s m args below meth c H locs cells slots Q G yc q n0 ad lsA stA} C hw hV hl hlk hsk hs kk => ?_) (fun hh hl hs => am_lk_c trivial hs)
  have hZ := C.ev.str hc hj hj2
  intro T hT X
  obtain ⟨t, a1, b1⟩ := kk (.ref (q (j + 2)) :: stA) ⟨rfl, hs⟩ T hT X
  exact ⟨t, am_ldcwS X C.1 C.2.2.2.1 (text := tx) (a := q (j + 2)) (by first | exact hZ.1 | exact va_tabs rfl rfl hZ.1) (by first | exact hZ.2 | (rw [Term.string_eval_of_vm (args := #[]) rfl]; exact hZ.2)) (g := F0 m pc lsA stA) rfl (by rw [C.2.1]; exact hd) t a1, b1⟩
theorem am_s_strV {j idx : Nat} (hj : j < 23) (hlink : Cond.fieldLink M.1.cls idx "java/lang/String" "value" "[B" ∈ am_good) (hd : decode M.2.1 pc = .ok (.getfield idx, 3)) (k : am_P l sc d M (pc + 3) ls (Vx (j + 200) :: st) h r) : am_P l sc d M pc ls (Vx (j + 2) :: st) h r := by
  refine am_stk k (fun {p e R s m args below meth c H locs cells slots Q G yc q n0 ad lsA stA} C hw hV hl hlk hsk hs kk => ?_) (fun hh hl hs => am_lk_c trivial (am_lk_t hs))
  obtain ⟨m1, rfl, hs1⟩ := am_sl_x hs
  exact vk_getf C.1 C.2.1 (C.ev.2.1 j hj).2.2.1 hV C.2.2.2.1 (C.2.2.2.2.1 _ hlink) (fun x hx => hx) hd (kk _ ⟨rfl, hs1⟩)
theorem am_s_strC {j idx : Nat} (hj : j < 23) (hlink : Cond.fieldLink M.1.cls idx "java/lang/String" "coder" "B" ∈ am_good) (hd : decode M.2.1 pc = .ok (.getfield idx, 3)) (k : am_P l sc d M (pc + 3) ls (Vi 0 :: st) h r) : am_P l sc d M pc ls (Vx (j + 2) :: st) h r := by
  refine am_stk k (fun {p e R s m args below meth c H locs cells slots Q G yc q n0 ad lsA stA} C hw hV hl hlk hsk hs kk => ?_) (fun hh hl hs => am_lk_c (show am_n32 0 by unfold am_n32; omega) (am_lk_t hs))
  obtain ⟨m1, rfl, hs1⟩ := am_sl_x hs
  exact vk_getf C.1 C.2.1 (C.ev.2.1 j hj).2.1 hV C.2.2.2.1 (C.2.2.2.2.1 _ hlink) (fun x hx => hx) hd (kk _ ⟨rfl, hs1⟩)
theorem am_s_litLen {j : Nat} (hj : j < 23) (hd : decode M.2.1 pc = .ok (.arraylength, 1)) (k : am_P l sc d M (pc + 1) ls (Vi (am_lit j).length :: st) h r) : am_P l sc d M pc ls (Vx (j + 200) :: st) h r := by
  refine am_stk k (fun {p e R s m args below meth c H locs cells slots Q G yc q n0 ad lsA stA} C hw hV hl hlk hsk hs kk => ?_) (fun hh hl hs => am_lk_c (show am_n32 _ by have := (am_lit_ok j hj).1; unfold am_n32; omega) (am_lk_t hs))
  obtain ⟨m1, rfl, hs1⟩ := am_sl_x hs
  exact va_tlen C.1 C.2.1 (C.ev.2.1 j hj).2.2.2 hV Int32.ofInt_eq_ofNat.symm hd (kk _ ⟨rfl, hs1⟩)
theorem am_s_litLd {j : Nat} {i : Int} (hj : j < 23) (h0 : 0 ≤ i) (h1 : i < (am_lit j).length) (hd : decode M.2.1 pc = .ok (.baload, 1)) (k : am_P l sc d M (pc + 1) ls (Vi ((am_lit j).getD i.toNat 0) :: st) h r) : am_P l sc d M pc ls (Vi i :: Vx (j + 200) :: st) h r := by
  refine am_stk k (fun {p e R s m args below meth c H locs cells slots Q G yc q n0 ad lsA stA} C hw hV hl hlk hsk hs kk => ?_) (fun hh hl hs => am_lk_c (show am_n32 _ by have := am_lit_at (j := i.toNat) hj; unfold am_n32; omega) (am_lk_t (am_lk_t hs)))
  obtain ⟨m1, rfl, hs1⟩ := am_sl_i hs
  obtain ⟨m2, rfl, hs2⟩ := am_sl_x hs1
  have hi : am_n32 i := am_lk_h hsk
  exact va_tb C.1 C.2.1 (C.ev.2.1 j hj).2.2.2 hV (am_in hi h0 h1) (by rw [am_clamp hi]) hd (kk _ ⟨rfl, hs2⟩)
theorem am_s_scLen (hd : decode M.2.1 pc = .ok (.arraylength, 1)) (k : am_P l sc d M (pc + 1) ls (Vi sc.1 :: st) h r) : am_P l sc d M pc ls (Vx 1 :: st) h r := by
  refine ⟨k.1, fun p e s m args below meth c G yc q n0 h0 ad0 C hm H locs ad lsA stA ha hw hV hl hs hlk hsk => ?_⟩
  obtain ⟨m1, rfl, hs1⟩ := am_sl_x (k := 0) hs
  have hX := C.ev.2.2.1
  refine va_slen C.1 C.2.1 hX.1 (Nat.lt_of_lt_of_le hX.2.1 C.ev.2.2.2.2.2.2.2.2.2.2.2.2) (show ¬ n0 ≤ q 1 by have := hX.2.1; omega) hV hd ?_
  exact k.2 p e s m args below meth c G yc q n0 h0 ad0 C hm H locs ad lsA (.int (Int32.ofNat sc.1) :: m1) ha hw hV hl ⟨by show _ = Value.int (Int32.ofInt _); rw [Int32.ofInt_eq_ofNat], hs1⟩ hlk (am_lk_c (show am_n32 _ by have := hX.2.2.1; unfold am_n32; omega) (am_lk_t hsk))
theorem am_s_scLd {i : Int} (h0 : 0 ≤ i) (h1 : i < sc.1) (hd : decode M.2.1 pc = .ok (.iaload, 1)) (k : am_P l sc d M (pc + 1) ls (Vi (sc.2 i.toNat) :: st) h r) : am_P l sc d M pc ls (Vi i :: Vx 1 :: st) h r := by
  refine ⟨k.1, fun p e s m args below meth c G yc q n0 h0' ad0 C hm H locs ad lsA stA ha hw hV hl hs hlk hsk => ?_⟩
  obtain ⟨m1, rfl, hs1⟩ := am_sl_i hs
  obtain ⟨m2, rfl, hs2⟩ := am_sl_x (k := 0) hs1
  have hX := C.ev.2.2.1
  have hi : am_n32 i := am_lk_h hsk
  refine va_sld C.1 C.2.1 hX.1 (Nat.lt_of_lt_of_le hX.2.1 C.ev.2.2.2.2.2.2.2.2.2.2.2.2) (show ¬ n0 ≤ q 1 by have := hX.2.1; omega) hV (am_in hi h0 h1) hd ?_
  exact k.2 p e s m args below meth c G yc q n0 h0' ad0 C hm H locs ad lsA _ ha hw hV hl ⟨by rw [am_clamp hi]; rfl, hs2⟩ hlk (am_lk_c (hX.2.2.2 _) (am_lk_t (am_lk_t hsk)))
theorem am_s_gets0 {idx : Nat} (hlink : Cond.fieldLink M.1.cls idx "java/lang/String" "COMPACT_STRINGS" "Z" ∈ am_good) (hd : decode M.2.1 pc = .ok (.getstatic idx, 3)) (k : am_P l sc d M (pc + 3) ls (Vi 1 :: st) h r) : am_P l sc d M pc ls st h r := by
  refine am_stk k (fun {p e R s m args below meth c H locs cells slots Q G yc q n0 ad lsA stA} C hw hV hl hlk hsk hs kk => ?_) (fun hh hl hs => am_lk_c (show am_n32 1 by unfold am_n32; omega) hs)
  exact va_gets C.1 C.2.1 C.ev.2.2.2.1 hV C.2.2.2.1 (C.2.2.2.2.1 _ hlink) (fun x hx => hx) hd (kk _ ⟨rfl, hs⟩)
theorem am_s_gets1 {idx : Nat} (hlink : Cond.fieldLink M.1.cls idx "jdk/internal/util/Preconditions" "SIOOBE_FORMATTER" "Ljava/util/function/BiFunction;" ∈ am_good) (hd : decode M.2.1 pc = .ok (.getstatic idx, 3)) (k : am_P l sc d M (pc + 3) ls (Vx 0 :: st) h r) : am_P l sc d M pc ls st h r := by
  refine am_stk k (fun {p e R s m args below meth c H locs cells slots Q G yc q n0 ad lsA stA} C hw hV hl hlk hsk hs kk => ?_) (fun hh hl hs => am_lk_c trivial hs)
  rcases C.ev.2.2.2.2.1 with hZ | ⟨t, hZ⟩
  · exact va_gets C.1 C.2.1 hZ hV C.2.2.2.1 (C.2.2.2.2.1 _ hlink) (fun x hx => hx) hd (kk _ ⟨Or.inl rfl, hs⟩)
  · exact va_gets C.1 C.2.1 hZ hV C.2.2.2.1 (C.2.2.2.2.1 _ hlink) (fun x hx => hx) hd (kk _ ⟨Or.inr ⟨t, rfl⟩, hs⟩)
theorem am_s_objInit {a idx : Nat} (hlink : Cond.methodLink M.1.cls idx Lib.objectInit ∈ am_good) (h2 : Cond.instanceMethod Lib.objectInit ∈ am_good) (h3 : Cond.code Lib.objectInit ⟨#[0xb1]⟩ 1 none ∈ am_good) (hst : (st.map am_cat).sum ≤ 8) (hd : decode M.2.1 pc = .ok (.invokespecial idx, 3)) (k : am_P l sc d M (pc + 3) ls st h r) : am_P l sc d M pc ls (Vr (some a) :: st) h r := by
  refine ⟨k.1, fun p e s m args below meth c G yc q n0 h0 ad0 C hm H locs ad lsA stA ha hw hV hl hs hlk hsk => ?_⟩
  obtain ⟨m1, rfl, hs1⟩ := am_sl_r hs
  have hcat : ∀ {st : List am_V} {m1 : List Value}, am_sl ad q st m1 → (m1.map fun v => v.category).sum = (st.map am_cat).sum := by
    intro st
    induction st with
    | nil => intro m1 h; rw [am_sl_n h]; rfl
    | cons v st ih =>
      intro m1 h
      cases m1 with
      | nil => exact h.elim
      | cons x m1 =>
        have e : x.category = am_cat v := by
          have hx := h.1
          rcases v with y | ((_ | b) | (y | (_ | k)))
          · rw [show x = .int _ from hx]; rfl
          · rw [show x = .null from hx]; rfl
          · rw [show x = .ref _ from hx]; rfl
          · rw [show x = .long _ from hx]; rfl
          · rcases hx with rfl | ⟨z, rfl⟩ <;> rfl
          · rw [show x = .ref _ from hx]; rfl
        rw [List.map_cons, List.map_cons, List.sum_cons, List.sum_cons, e, ih h.2]
  refine W.objInit C.1 C.2.1 C.2.2.2.1 (C.2.2.2.2.1 _ hlink) (C.2.2.2.2.1 _ h2) (C.2.2.2.2.1 _ h3) rfl (by rw [C.2.2.1]; exact hl.1) rfl hd (by show 1 ≤ d + 10; omega) (by
    have e := lv_room (m := m) (pc := pc) (ls := lsA) (st := m1) (rest := m1) (by rw [hcat hs1]; exact hst)
    show _ ≤ (d + 1) * 60 + 200
    have e2 : 2 * (F0 m pc lsA (va_rf (Option.map ad (some a)) :: m1)).monitorRoom + (m1.map fun v => v.category).sum ≤ 8 := e
    omega) ?_
  exact k.2 p e s m args below meth c G yc q n0 h0 ad0 C hm H locs ad lsA m1 ha hw hV hl hs1 hlk (am_lk_t hsk)
end
