/-! THE LAW'S ENTRY: what stands there -/
def am_h0 : am_H := (0, 0, 0, fun _ => (0, 0), fun _ _ => 0, fun _ _ => none)
def am_kT : List Nat := [65, 71, 73, 75, 77, 79, 81, 83, 85, 87, 88, 90, 92, 94, 96, 98, 100, 102, 104, 106, 108, 110, 112]
def am_kM : List Nat := [194, 200, 205, 210, 215, 169, 175, 177, 179, 189, 190, 192, 265, 267, 269, 271, 263, 258, 247, 239, 220, 222, 224]
def am_tT (i : Nat) : Term := .string "OldFences$Tape" (am_kT.getD i 0)
def am_tM (i : Nat) : Term := .string "OldFencesModel" (am_kM.getD i 0)
def am_C0 : Cond := Jvm.Cond.and given_1 narrow_1
noncomputable def am_fl : List Cond := flatC am_C0
noncomputable def am_at0 (i : Nat) (w : Cond) : Bool := decide (am_fl[i]? = some w)
theorem am_at0_in {i : Nat} {w : Cond} (h : am_at0 i w = true) : w ∈ am_fl := List.mem_of_getElem? (of_decide_eq_true h)
def am_srB : Cond → Bool
  | .stringRef own k tx => (List.range 23).any fun i => decide (am_ltx.getD i "" = tx) && ((decide (own = "OldFences$Tape") && decide (k = am_kT.getD i 0)) || (decide (own = "OldFencesModel") && decide (k = am_kM.getD i 0)))
  | _ => true
theorem am_srB_ok : lw_tbl.all am_srB = true := by decide +kernel
theorem am_ltx_inj : ∀ i, i < 23 → ∀ j, j < 23 → am_ltx.getD i "" = am_ltx.getD j "" → i = j := by decide +kernel
theorem am_ncB : ((List.range 6).all fun a => (List.range 6).all fun b => decide (am_xn a = am_xn b) || decide (Cond.not (.castable (am_xn a) (am_xn b)) ∈ am_fl)) = true := by decide +kernel
theorem am_xn_up (a : Nat) : ∃ b, b < 6 ∧ am_xn a = am_xn b := by
  rcases Nat.lt_or_ge a 6 with h | h
  · exact ⟨a, h, rfl⟩
  · refine ⟨5, by omega, ?_⟩
    obtain ⟨k, rfl⟩ : ∃ k, a = k + 5 := ⟨a - 5, by omega⟩
    rfl
theorem am_arr_of {s : State} {args : Array Value} {ty : FieldType} (h : (Cond.arrayClass ty).before args s = true) (hty : ∀ C, ty ≠ .object C) : ∃ y, ArrOfT s y ty ∧ va_RA s y ty := by
  obtain ⟨c, k, comp, h1, h2, h3⟩ := Cond.arrayClass_spec (args := args) (first := s) (o := none) (idx := []) h
  refine ⟨c, fun n z => ⟨(fun k h => by cases h), k, h2, comp, h3⟩, ?_⟩
  cases ty with
  | object C => exact absurd rfl (hty C)
  | _ => exact h1
theorem am_arr_obj {s : State} {args : Array Value} {C : String} (h : (Cond.arrayOver (.object C)).before args s = true) : ∃ y, ArrOfT s y (.object C) ∧ va_RA s y (.object C) := by
  obtain ⟨comp, c, k, h1, -, h2, h3, h4⟩ := Cond.arrayOver_spec (args := args) (first := s) (o := none) (idx := []) h
  exact ⟨c, fun n z => ⟨(fun k h => by cases h), k, h2, comp, h3⟩, k, comp, h2, h3, h1, h4⟩
theorem am_arr_arr {s : State} {args : Array Value} {t : FieldType} (h : (Cond.arrayOver (.array t)).before args s = true) : ∃ y, ArrOfT s y (.array t) ∧ va_RA s y (.array t) := by
  obtain ⟨comp, c, k, h1, h2, h3, h4⟩ := Cond.arrayOver_specA (args := args) (first := s) (o := none) (idx := []) h
  exact ⟨c, fun n z => ⟨(fun k h => by cases h), k, h2, comp, h3⟩, h4⟩
theorem am_getD_map {f : Int → Int32} {l : List Int} {j : Nat} (h : f 0 = 0) : (l.map f).getD j 0 = f (l.getD j 0) := by
  rw [List.getD_eq_getElem?_getD, List.getD_eq_getElem?_getD, List.getElem?_map]
  cases l[j]? with
  | none => exact h.symm
  | some x => rfl
theorem am_str1 {s : State} {args : Array Value} {A : Nat → Prop} {t : Term} {byt : List Int32} {lt : List Int} (hb : lt.map Int32.ofInt = byt) (hN : byt.length < 2 ^ 31) (hA : ∀ a : Nat, a < s.heap.size → ¬ A a) (c1 : (Cond.exactly t "java/lang/String").before args s = true) (c2 : (Cond.eq (.field t "java/lang/String" "coder" "B") (.int 0)).before args s = true) (c3 : (Cond.arrayOf (.field t "java/lang/String" "value" "[B") .byte).before args s = true) (c4 : (Cond.eq (.length (.field t "java/lang/String" "value" "[B")) (.int (Int32.ofNat byt.length))).before args s = true)
    (c6 : ∀ j : Nat, j < byt.length → (Cond.eq (.elem (.field t "java/lang/String" "value" "[B") (.int (Int32.ofNat j))) (.int (byt.getD j 0))).before args s = true) : ∃ z : Nat × Nat, t.eval args s none [] s = some (.ref z.1) ∧ va_O "java/lang/String" z.1 A s s.heap ∧ va_OF "java/lang/String" "coder" "B" (.int 0) z.1 A s s.heap ∧ va_OF "java/lang/String" "value" "[B" (.ref z.2) z.1 A s s.heap ∧ va_T .byte z.2 lt.length (fun j => .int (Int32.ofInt (lt.getD j 0))) A s s.heap := by
  obtain ⟨a, c, cA, kA, q1, q2, q3, q4, q5, q6, -⟩ := Cond.exactly_spec (args := args) (first := s) (o := none) (s := s) (idx := []) (t := t) (cls := "java/lang/String") c1
  obtain ⟨t9, ht, hT⟩ := va_Tof (f := fun j => .int (byt.getD j 0)) (A := A) hN c3 (va_eqt c4) (fun j hj => va_eqt (c6 j hj)) hA
  refine ⟨(a, t9), q1, ⟨cA, q3, q5, by rw [q6]; exact q2, hA a (Array.getElem?_eq_some_iff.mp q3).1⟩, vk_OFof q1 (va_eqt c2) hA, vk_OFof q1 ht hA, ?_⟩
  subst hb
  rw [List.length_map] at hT
  have e : (fun j => Value.int ((lt.map Int32.ofInt).getD j 0)) = (fun j => .int (Int32.ofInt (lt.getD j 0))) := by
    funext j
    rw [am_getD_map rfl]
  rw [e] at hT
  exact hT
theorem am_str_0 {s : State} {args : Array Value} {A : Nat → Prop} (hfl : ∀ w ∈ am_fl, w.before args s = true) (hA : ∀ a : Nat, a < s.heap.size → ¬ A a) : ∃ z : Nat × Nat, (am_tT 0).eval args s none [] s = some (.ref z.1) ∧ va_O "java/lang/String" z.1 A s s.heap ∧ va_OF "java/lang/String" "coder" "B" (.int 0) z.1 A s s.heap ∧ va_OF "java/lang/String" "value" "[B" (.ref z.2) z.1 A s s.heap ∧ va_T .byte z.2 (am_lit 0).length (fun j => .int (Int32.ofInt ((am_lit 0).getD j 0))) A s s.heap :=
  am_str1 (t := .string "OldFences$Tape" 65) (byt := [102, 101, 110, 99, 101]) (by decide +kernel) (by decide) hA (hfl _ (am_at0_in (i := 91) (by decide +kernel))) (hfl _ (am_at0_in (i := 92) (by decide +kernel))) (hfl _ (am_at0_in (i := 93) (by decide +kernel))) (hfl _ (am_at0_in (i := 94) (by decide +kernel))) (fun j hj => match j, hj with
    | 0, _ => hfl _ (am_at0_in (i := 95) (by decide +kernel))
    | 1, _ => hfl _ (am_at0_in (i := 96) (by decide +kernel))
    | 2, _ => hfl _ (am_at0_in (i := 97) (by decide +kernel))
    | 3, _ => hfl _ (am_at0_in (i := 98) (by decide +kernel))
    | 4, _ => hfl _ (am_at0_in (i := 99) (by decide +kernel))
    | k + 5, h => absurd (show k + 5 < 5 from h) (by omega))
theorem am_str_1 {s : State} {args : Array Value} {A : Nat → Prop} (hfl : ∀ w ∈ am_fl, w.before args s = true) (hA : ∀ a : Nat, a < s.heap.size → ¬ A a) : ∃ z : Nat × Nat, (am_tT 1).eval args s none [] s = some (.ref z.1) ∧ va_O "java/lang/String" z.1 A s s.heap ∧ va_OF "java/lang/String" "coder" "B" (.int 0) z.1 A s s.heap ∧ va_OF "java/lang/String" "value" "[B" (.ref z.2) z.1 A s s.heap ∧ va_T .byte z.2 (am_lit 1).length (fun j => .int (Int32.ofInt ((am_lit 1).getD j 0))) A s s.heap :=
  am_str1 (t := .string "OldFences$Tape" 71) (byt := [114, 111, 119]) (by decide +kernel) (by decide) hA (hfl _ (am_at0_in (i := 100) (by decide +kernel))) (hfl _ (am_at0_in (i := 101) (by decide +kernel))) (hfl _ (am_at0_in (i := 102) (by decide +kernel))) (hfl _ (am_at0_in (i := 103) (by decide +kernel))) (fun j hj => match j, hj with
    | 0, _ => hfl _ (am_at0_in (i := 104) (by decide +kernel))
    | 1, _ => hfl _ (am_at0_in (i := 105) (by decide +kernel))
    | 2, _ => hfl _ (am_at0_in (i := 106) (by decide +kernel))
    | k + 3, h => absurd (show k + 3 < 3 from h) (by omega))
theorem am_str_2 {s : State} {args : Array Value} {A : Nat → Prop} (hfl : ∀ w ∈ am_fl, w.before args s = true) (hA : ∀ a : Nat, a < s.heap.size → ¬ A a) : ∃ z : Nat × Nat, (am_tT 2).eval args s none [] s = some (.ref z.1) ∧ va_O "java/lang/String" z.1 A s s.heap ∧ va_OF "java/lang/String" "coder" "B" (.int 0) z.1 A s s.heap ∧ va_OF "java/lang/String" "value" "[B" (.ref z.2) z.1 A s s.heap ∧ va_T .byte z.2 (am_lit 2).length (fun j => .int (Int32.ofInt ((am_lit 2).getD j 0))) A s s.heap :=
  am_str1 (t := .string "OldFences$Tape" 73) (byt := [102, 97, 109, 105, 108, 121]) (by decide +kernel) (by decide) hA (hfl _ (am_at0_in (i := 107) (by decide +kernel))) (hfl _ (am_at0_in (i := 108) (by decide +kernel))) (hfl _ (am_at0_in (i := 109) (by decide +kernel))) (hfl _ (am_at0_in (i := 110) (by decide +kernel))) (fun j hj => match j, hj with
    | 0, _ => hfl _ (am_at0_in (i := 111) (by decide +kernel))
    | 1, _ => hfl _ (am_at0_in (i := 112) (by decide +kernel))
    | 2, _ => hfl _ (am_at0_in (i := 113) (by decide +kernel))
    | 3, _ => hfl _ (am_at0_in (i := 114) (by decide +kernel))
    | 4, _ => hfl _ (am_at0_in (i := 115) (by decide +kernel))
    | 5, _ => hfl _ (am_at0_in (i := 116) (by decide +kernel))
    | k + 6, h => absurd (show k + 6 < 6 from h) (by omega))
theorem am_str_3 {s : State} {args : Array Value} {A : Nat → Prop} (hfl : ∀ w ∈ am_fl, w.before args s = true) (hA : ∀ a : Nat, a < s.heap.size → ¬ A a) : ∃ z : Nat × Nat, (am_tT 3).eval args s none [] s = some (.ref z.1) ∧ va_O "java/lang/String" z.1 A s s.heap ∧ va_OF "java/lang/String" "coder" "B" (.int 0) z.1 A s s.heap ∧ va_OF "java/lang/String" "value" "[B" (.ref z.2) z.1 A s s.heap ∧ va_T .byte z.2 (am_lit 3).length (fun j => .int (Int32.ofInt ((am_lit 3).getD j 0))) A s s.heap :=
  am_str1 (t := .string "OldFences$Tape" 75) (byt := [113, 117, 97, 114, 114, 101, 108]) (by decide +kernel) (by decide) hA (hfl _ (am_at0_in (i := 117) (by decide +kernel))) (hfl _ (am_at0_in (i := 118) (by decide +kernel))) (hfl _ (am_at0_in (i := 119) (by decide +kernel))) (hfl _ (am_at0_in (i := 120) (by decide +kernel))) (fun j hj => match j, hj with
    | 0, _ => hfl _ (am_at0_in (i := 121) (by decide +kernel))
    | 1, _ => hfl _ (am_at0_in (i := 122) (by decide +kernel))
    | 2, _ => hfl _ (am_at0_in (i := 123) (by decide +kernel))
    | 3, _ => hfl _ (am_at0_in (i := 124) (by decide +kernel))
    | 4, _ => hfl _ (am_at0_in (i := 125) (by decide +kernel))
    | 5, _ => hfl _ (am_at0_in (i := 126) (by decide +kernel))
    | 6, _ => hfl _ (am_at0_in (i := 127) (by decide +kernel))
    | k + 7, h => absurd (show k + 7 < 7 from h) (by omega))
theorem am_str_4 {s : State} {args : Array Value} {A : Nat → Prop} (hfl : ∀ w ∈ am_fl, w.before args s = true) (hA : ∀ a : Nat, a < s.heap.size → ¬ A a) : ∃ z : Nat × Nat, (am_tT 4).eval args s none [] s = some (.ref z.1) ∧ va_O "java/lang/String" z.1 A s s.heap ∧ va_OF "java/lang/String" "coder" "B" (.int 0) z.1 A s s.heap ∧ va_OF "java/lang/String" "value" "[B" (.ref z.2) z.1 A s s.heap ∧ va_T .byte z.2 (am_lit 4).length (fun j => .int (Int32.ofInt ((am_lit 4).getD j 0))) A s s.heap :=
  am_str1 (t := .string "OldFences$Tape" 77) (byt := [121, 101, 97, 114]) (by decide +kernel) (by decide) hA (hfl _ (am_at0_in (i := 128) (by decide +kernel))) (hfl _ (am_at0_in (i := 129) (by decide +kernel))) (hfl _ (am_at0_in (i := 130) (by decide +kernel))) (hfl _ (am_at0_in (i := 131) (by decide +kernel))) (fun j hj => match j, hj with
    | 0, _ => hfl _ (am_at0_in (i := 132) (by decide +kernel))
    | 1, _ => hfl _ (am_at0_in (i := 133) (by decide +kernel))
    | 2, _ => hfl _ (am_at0_in (i := 134) (by decide +kernel))
    | 3, _ => hfl _ (am_at0_in (i := 135) (by decide +kernel))
    | k + 4, h => absurd (show k + 4 < 4 from h) (by omega))
theorem am_str_5 {s : State} {args : Array Value} {A : Nat → Prop} (hfl : ∀ w ∈ am_fl, w.before args s = true) (hA : ∀ a : Nat, a < s.heap.size → ¬ A a) : ∃ z : Nat × Nat, (am_tT 5).eval args s none [] s = some (.ref z.1) ∧ va_O "java/lang/String" z.1 A s s.heap ∧ va_OF "java/lang/String" "coder" "B" (.int 0) z.1 A s s.heap ∧ va_OF "java/lang/String" "value" "[B" (.ref z.2) z.1 A s s.heap ∧ va_T .byte z.2 (am_lit 5).length (fun j => .int (Int32.ofInt ((am_lit 5).getD j 0))) A s s.heap :=
  am_str1 (t := .string "OldFences$Tape" 79) (byt := [97, 103, 101]) (by decide +kernel) (by decide) hA (hfl _ (am_at0_in (i := 136) (by decide +kernel))) (hfl _ (am_at0_in (i := 137) (by decide +kernel))) (hfl _ (am_at0_in (i := 138) (by decide +kernel))) (hfl _ (am_at0_in (i := 139) (by decide +kernel))) (fun j hj => match j, hj with
    | 0, _ => hfl _ (am_at0_in (i := 140) (by decide +kernel))
    | 1, _ => hfl _ (am_at0_in (i := 141) (by decide +kernel))
    | 2, _ => hfl _ (am_at0_in (i := 142) (by decide +kernel))
    | k + 3, h => absurd (show k + 3 < 3 from h) (by omega))
theorem am_str_6 {s : State} {args : Array Value} {A : Nat → Prop} (hfl : ∀ w ∈ am_fl, w.before args s = true) (hA : ∀ a : Nat, a < s.heap.size → ¬ A a) : ∃ z : Nat × Nat, (am_tT 6).eval args s none [] s = some (.ref z.1) ∧ va_O "java/lang/String" z.1 A s s.heap ∧ va_OF "java/lang/String" "coder" "B" (.int 0) z.1 A s s.heap ∧ va_OF "java/lang/String" "value" "[B" (.ref z.2) z.1 A s s.heap ∧ va_T .byte z.2 (am_lit 6).length (fun j => .int (Int32.ofInt ((am_lit 6).getD j 0))) A s s.heap :=
  am_str1 (t := .string "OldFences$Tape" 81) (byt := [104, 105, 103, 104]) (by decide +kernel) (by decide) hA (hfl _ (am_at0_in (i := 143) (by decide +kernel))) (hfl _ (am_at0_in (i := 144) (by decide +kernel))) (hfl _ (am_at0_in (i := 145) (by decide +kernel))) (hfl _ (am_at0_in (i := 146) (by decide +kernel))) (fun j hj => match j, hj with
    | 0, _ => hfl _ (am_at0_in (i := 147) (by decide +kernel))
    | 1, _ => hfl _ (am_at0_in (i := 148) (by decide +kernel))
    | 2, _ => hfl _ (am_at0_in (i := 149) (by decide +kernel))
    | 3, _ => hfl _ (am_at0_in (i := 150) (by decide +kernel))
    | k + 4, h => absurd (show k + 4 < 4 from h) (by omega))
theorem am_str_7 {s : State} {args : Array Value} {A : Nat → Prop} (hfl : ∀ w ∈ am_fl, w.before args s = true) (hA : ∀ a : Nat, a < s.heap.size → ¬ A a) : ∃ z : Nat × Nat, (am_tT 7).eval args s none [] s = some (.ref z.1) ∧ va_O "java/lang/String" z.1 A s s.heap ∧ va_OF "java/lang/String" "coder" "B" (.int 0) z.1 A s s.heap ∧ va_OF "java/lang/String" "value" "[B" (.ref z.2) z.1 A s s.heap ∧ va_T .byte z.2 (am_lit 7).length (fun j => .int (Int32.ofInt ((am_lit 7).getD j 0))) A s s.heap :=
  am_str1 (t := .string "OldFences$Tape" 83) (byt := [103, 97, 116, 101]) (by decide +kernel) (by decide) hA (hfl _ (am_at0_in (i := 151) (by decide +kernel))) (hfl _ (am_at0_in (i := 152) (by decide +kernel))) (hfl _ (am_at0_in (i := 153) (by decide +kernel))) (hfl _ (am_at0_in (i := 154) (by decide +kernel))) (fun j hj => match j, hj with
    | 0, _ => hfl _ (am_at0_in (i := 155) (by decide +kernel))
    | 1, _ => hfl _ (am_at0_in (i := 156) (by decide +kernel))
    | 2, _ => hfl _ (am_at0_in (i := 157) (by decide +kernel))
    | 3, _ => hfl _ (am_at0_in (i := 158) (by decide +kernel))
    | k + 4, h => absurd (show k + 4 < 4 from h) (by omega))
theorem am_str_8 {s : State} {args : Array Value} {A : Nat → Prop} (hfl : ∀ w ∈ am_fl, w.before args s = true) (hA : ∀ a : Nat, a < s.heap.size → ¬ A a) : ∃ z : Nat × Nat, (am_tT 8).eval args s none [] s = some (.ref z.1) ∧ va_O "java/lang/String" z.1 A s s.heap ∧ va_OF "java/lang/String" "coder" "B" (.int 0) z.1 A s s.heap ∧ va_OF "java/lang/String" "value" "[B" (.ref z.2) z.1 A s s.heap ∧ va_T .byte z.2 (am_lit 8).length (fun j => .int (Int32.ofInt ((am_lit 8).getD j 0))) A s s.heap :=
  am_str1 (t := .string "OldFences$Tape" 85) (byt := [115, 116, 114, 105, 110, 103]) (by decide +kernel) (by decide) hA (hfl _ (am_at0_in (i := 159) (by decide +kernel))) (hfl _ (am_at0_in (i := 160) (by decide +kernel))) (hfl _ (am_at0_in (i := 161) (by decide +kernel))) (hfl _ (am_at0_in (i := 162) (by decide +kernel))) (fun j hj => match j, hj with
    | 0, _ => hfl _ (am_at0_in (i := 163) (by decide +kernel))
    | 1, _ => hfl _ (am_at0_in (i := 164) (by decide +kernel))
    | 2, _ => hfl _ (am_at0_in (i := 165) (by decide +kernel))
    | 3, _ => hfl _ (am_at0_in (i := 166) (by decide +kernel))
    | 4, _ => hfl _ (am_at0_in (i := 167) (by decide +kernel))
    | 5, _ => hfl _ (am_at0_in (i := 168) (by decide +kernel))
    | k + 6, h => absurd (show k + 6 < 6 from h) (by omega))
theorem am_str_9 {s : State} {args : Array Value} {A : Nat → Prop} (hfl : ∀ w ∈ am_fl, w.before args s = true) (hA : ∀ a : Nat, a < s.heap.size → ¬ A a) : ∃ z : Nat × Nat, (am_tT 9).eval args s none [] s = some (.ref z.1) ∧ va_O "java/lang/String" z.1 A s s.heap ∧ va_OF "java/lang/String" "coder" "B" (.int 0) z.1 A s s.heap ∧ va_OF "java/lang/String" "value" "[B" (.ref z.2) z.1 A s s.heap ∧ va_T .byte z.2 (am_lit 9).length (fun j => .int (Int32.ofInt ((am_lit 9).getD j 0))) A s s.heap :=
  am_str1 (t := .string "OldFences$Tape" 87) (byt := [97, 116]) (by decide +kernel) (by decide) hA (hfl _ (am_at0_in (i := 169) (by decide +kernel))) (hfl _ (am_at0_in (i := 170) (by decide +kernel))) (hfl _ (am_at0_in (i := 171) (by decide +kernel))) (hfl _ (am_at0_in (i := 172) (by decide +kernel))) (fun j hj => match j, hj with
    | 0, _ => hfl _ (am_at0_in (i := 173) (by decide +kernel))
    | 1, _ => hfl _ (am_at0_in (i := 174) (by decide +kernel))
    | k + 2, h => absurd (show k + 2 < 2 from h) (by omega))
theorem am_str_10 {s : State} {args : Array Value} {A : Nat → Prop} (hfl : ∀ w ∈ am_fl, w.before args s = true) (hA : ∀ a : Nat, a < s.heap.size → ¬ A a) : ∃ z : Nat × Nat, (am_tT 10).eval args s none [] s = some (.ref z.1) ∧ va_O "java/lang/String" z.1 A s s.heap ∧ va_OF "java/lang/String" "coder" "B" (.int 0) z.1 A s s.heap ∧ va_OF "java/lang/String" "value" "[B" (.ref z.2) z.1 A s s.heap ∧ va_T .byte z.2 (am_lit 10).length (fun j => .int (Int32.ofInt ((am_lit 10).getD j 0))) A s s.heap :=
  am_str1 (t := .string "OldFences$Tape" 88) (byt := [99, 108, 105, 109, 98, 115]) (by decide +kernel) (by decide) hA (hfl _ (am_at0_in (i := 175) (by decide +kernel))) (hfl _ (am_at0_in (i := 176) (by decide +kernel))) (hfl _ (am_at0_in (i := 177) (by decide +kernel))) (hfl _ (am_at0_in (i := 178) (by decide +kernel))) (fun j hj => match j, hj with
    | 0, _ => hfl _ (am_at0_in (i := 179) (by decide +kernel))
    | 1, _ => hfl _ (am_at0_in (i := 180) (by decide +kernel))
    | 2, _ => hfl _ (am_at0_in (i := 181) (by decide +kernel))
    | 3, _ => hfl _ (am_at0_in (i := 182) (by decide +kernel))
    | 4, _ => hfl _ (am_at0_in (i := 183) (by decide +kernel))
    | 5, _ => hfl _ (am_at0_in (i := 184) (by decide +kernel))
    | k + 6, h => absurd (show k + 6 < 6 from h) (by omega))
theorem am_str_11 {s : State} {args : Array Value} {A : Nat → Prop} (hfl : ∀ w ∈ am_fl, w.before args s = true) (hA : ∀ a : Nat, a < s.heap.size → ¬ A a) : ∃ z : Nat × Nat, (am_tT 11).eval args s none [] s = some (.ref z.1) ∧ va_O "java/lang/String" z.1 A s s.heap ∧ va_OF "java/lang/String" "coder" "B" (.int 0) z.1 A s s.heap ∧ va_OF "java/lang/String" "value" "[B" (.ref z.2) z.1 A s s.heap ∧ va_T .byte z.2 (am_lit 11).length (fun j => .int (Int32.ofInt ((am_lit 11).getD j 0))) A s s.heap :=
  am_str1 (t := .string "OldFences$Tape" 90) (byt := [101, 121, 101, 115]) (by decide +kernel) (by decide) hA (hfl _ (am_at0_in (i := 185) (by decide +kernel))) (hfl _ (am_at0_in (i := 186) (by decide +kernel))) (hfl _ (am_at0_in (i := 187) (by decide +kernel))) (hfl _ (am_at0_in (i := 188) (by decide +kernel))) (fun j hj => match j, hj with
    | 0, _ => hfl _ (am_at0_in (i := 189) (by decide +kernel))
    | 1, _ => hfl _ (am_at0_in (i := 190) (by decide +kernel))
    | 2, _ => hfl _ (am_at0_in (i := 191) (by decide +kernel))
    | 3, _ => hfl _ (am_at0_in (i := 192) (by decide +kernel))
    | k + 4, h => absurd (show k + 4 < 4 from h) (by omega))
theorem am_str_12 {s : State} {args : Array Value} {A : Nat → Prop} (hfl : ∀ w ∈ am_fl, w.before args s = true) (hA : ∀ a : Nat, a < s.heap.size → ¬ A a) : ∃ z : Nat × Nat, (am_tT 12).eval args s none [] s = some (.ref z.1) ∧ va_O "java/lang/String" z.1 A s s.heap ∧ va_OF "java/lang/String" "coder" "B" (.int 0) z.1 A s s.heap ∧ va_OF "java/lang/String" "value" "[B" (.ref z.2) z.1 A s s.heap ∧ va_T .byte z.2 (am_lit 12).length (fun j => .int (Int32.ofInt ((am_lit 12).getD j 0))) A s s.heap :=
  am_str1 (t := .string "OldFences$Tape" 92) (byt := [103, 114, 111, 119]) (by decide +kernel) (by decide) hA (hfl _ (am_at0_in (i := 193) (by decide +kernel))) (hfl _ (am_at0_in (i := 194) (by decide +kernel))) (hfl _ (am_at0_in (i := 195) (by decide +kernel))) (hfl _ (am_at0_in (i := 196) (by decide +kernel))) (fun j hj => match j, hj with
    | 0, _ => hfl _ (am_at0_in (i := 197) (by decide +kernel))
    | 1, _ => hfl _ (am_at0_in (i := 198) (by decide +kernel))
    | 2, _ => hfl _ (am_at0_in (i := 199) (by decide +kernel))
    | 3, _ => hfl _ (am_at0_in (i := 200) (by decide +kernel))
    | k + 4, h => absurd (show k + 4 < 4 from h) (by omega))
theorem am_str_13 {s : State} {args : Array Value} {A : Nat → Prop} (hfl : ∀ w ∈ am_fl, w.before args s = true) (hA : ∀ a : Nat, a < s.heap.size → ¬ A a) : ∃ z : Nat × Nat, (am_tT 13).eval args s none [] s = some (.ref z.1) ∧ va_O "java/lang/String" z.1 A s s.heap ∧ va_OF "java/lang/String" "coder" "B" (.int 0) z.1 A s s.heap ∧ va_OF "java/lang/String" "value" "[B" (.ref z.2) z.1 A s s.heap ∧ va_T .byte z.2 (am_lit 13).length (fun j => .int (Int32.ofInt ((am_lit 13).getD j 0))) A s s.heap :=
  am_str1 (t := .string "OldFences$Tape" 94) (byt := [115, 105, 110, 107]) (by decide +kernel) (by decide) hA (hfl _ (am_at0_in (i := 201) (by decide +kernel))) (hfl _ (am_at0_in (i := 202) (by decide +kernel))) (hfl _ (am_at0_in (i := 203) (by decide +kernel))) (hfl _ (am_at0_in (i := 204) (by decide +kernel))) (fun j hj => match j, hj with
    | 0, _ => hfl _ (am_at0_in (i := 205) (by decide +kernel))
    | 1, _ => hfl _ (am_at0_in (i := 206) (by decide +kernel))
    | 2, _ => hfl _ (am_at0_in (i := 207) (by decide +kernel))
    | 3, _ => hfl _ (am_at0_in (i := 208) (by decide +kernel))
    | k + 4, h => absurd (show k + 4 < 4 from h) (by omega))
theorem am_str_14 {s : State} {args : Array Value} {A : Nat → Prop} (hfl : ∀ w ∈ am_fl, w.before args s = true) (hA : ∀ a : Nat, a < s.heap.size → ¬ A a) : ∃ z : Nat × Nat, (am_tT 14).eval args s none [] s = some (.ref z.1) ∧ va_O "java/lang/String" z.1 A s s.heap ∧ va_OF "java/lang/String" "coder" "B" (.int 0) z.1 A s s.heap ∧ va_OF "java/lang/String" "value" "[B" (.ref z.2) z.1 A s s.heap ∧ va_T .byte z.2 (am_lit 14).length (fun j => .int (Int32.ofInt ((am_lit 14).getD j 0))) A s s.heap :=
  am_str1 (t := .string "OldFences$Tape" 96) (byt := [115, 111, 114, 101]) (by decide +kernel) (by decide) hA (hfl _ (am_at0_in (i := 209) (by decide +kernel))) (hfl _ (am_at0_in (i := 210) (by decide +kernel))) (hfl _ (am_at0_in (i := 211) (by decide +kernel))) (hfl _ (am_at0_in (i := 212) (by decide +kernel))) (fun j hj => match j, hj with
    | 0, _ => hfl _ (am_at0_in (i := 213) (by decide +kernel))
    | 1, _ => hfl _ (am_at0_in (i := 214) (by decide +kernel))
    | 2, _ => hfl _ (am_at0_in (i := 215) (by decide +kernel))
    | 3, _ => hfl _ (am_at0_in (i := 216) (by decide +kernel))
    | k + 4, h => absurd (show k + 4 < 4 from h) (by omega))
theorem am_str_15 {s : State} {args : Array Value} {A : Nat → Prop} (hfl : ∀ w ∈ am_fl, w.before args s = true) (hA : ∀ a : Nat, a < s.heap.size → ¬ A a) : ∃ z : Nat × Nat, (am_tT 15).eval args s none [] s = some (.ref z.1) ∧ va_O "java/lang/String" z.1 A s s.heap ∧ va_OF "java/lang/String" "coder" "B" (.int 0) z.1 A s s.heap ∧ va_OF "java/lang/String" "value" "[B" (.ref z.2) z.1 A s s.heap ∧ va_T .byte z.2 (am_lit 15).length (fun j => .int (Int32.ofInt ((am_lit 15).getD j 0))) A s s.heap :=
  am_str1 (t := .string "OldFences$Tape" 98) (byt := [105, 102]) (by decide +kernel) (by decide) hA (hfl _ (am_at0_in (i := 217) (by decide +kernel))) (hfl _ (am_at0_in (i := 218) (by decide +kernel))) (hfl _ (am_at0_in (i := 219) (by decide +kernel))) (hfl _ (am_at0_in (i := 220) (by decide +kernel))) (fun j hj => match j, hj with
    | 0, _ => hfl _ (am_at0_in (i := 221) (by decide +kernel))
    | 1, _ => hfl _ (am_at0_in (i := 222) (by decide +kernel))
    | k + 2, h => absurd (show k + 2 < 2 from h) (by omega))
theorem am_str_16 {s : State} {args : Array Value} {A : Nat → Prop} (hfl : ∀ w ∈ am_fl, w.before args s = true) (hA : ∀ a : Nat, a < s.heap.size → ¬ A a) : ∃ z : Nat × Nat, (am_tT 16).eval args s none [] s = some (.ref z.1) ∧ va_O "java/lang/String" z.1 A s s.heap ∧ va_OF "java/lang/String" "coder" "B" (.int 0) z.1 A s s.heap ∧ va_OF "java/lang/String" "value" "[B" (.ref z.2) z.1 A s s.heap ∧ va_T .byte z.2 (am_lit 16).length (fun j => .int (Int32.ofInt ((am_lit 16).getD j 0))) A s s.heap :=
  am_str1 (t := .string "OldFences$Tape" 100) (byt := [111, 114]) (by decide +kernel) (by decide) hA (hfl _ (am_at0_in (i := 223) (by decide +kernel))) (hfl _ (am_at0_in (i := 224) (by decide +kernel))) (hfl _ (am_at0_in (i := 225) (by decide +kernel))) (hfl _ (am_at0_in (i := 226) (by decide +kernel))) (fun j hj => match j, hj with
    | 0, _ => hfl _ (am_at0_in (i := 227) (by decide +kernel))
    | 1, _ => hfl _ (am_at0_in (i := 228) (by decide +kernel))
    | k + 2, h => absurd (show k + 2 < 2 from h) (by omega))
theorem am_str_17 {s : State} {args : Array Value} {A : Nat → Prop} (hfl : ∀ w ∈ am_fl, w.before args s = true) (hA : ∀ a : Nat, a < s.heap.size → ¬ A a) : ∃ z : Nat × Nat, (am_tT 17).eval args s none [] s = some (.ref z.1) ∧ va_O "java/lang/String" z.1 A s s.heap ∧ va_OF "java/lang/String" "coder" "B" (.int 0) z.1 A s s.heap ∧ va_OF "java/lang/String" "value" "[B" (.ref z.2) z.1 A s s.heap ∧ va_T .byte z.2 (am_lit 17).length (fun j => .int (Int32.ofInt ((am_lit 17).getD j 0))) A s s.heap :=
  am_str1 (t := .string "OldFences$Tape" 102) (byt := [97, 110, 100]) (by decide +kernel) (by decide) hA (hfl _ (am_at0_in (i := 229) (by decide +kernel))) (hfl _ (am_at0_in (i := 230) (by decide +kernel))) (hfl _ (am_at0_in (i := 231) (by decide +kernel))) (hfl _ (am_at0_in (i := 232) (by decide +kernel))) (fun j hj => match j, hj with
    | 0, _ => hfl _ (am_at0_in (i := 233) (by decide +kernel))
    | 1, _ => hfl _ (am_at0_in (i := 234) (by decide +kernel))
    | 2, _ => hfl _ (am_at0_in (i := 235) (by decide +kernel))
    | k + 3, h => absurd (show k + 3 < 3 from h) (by omega))
theorem am_str_18 {s : State} {args : Array Value} {A : Nat → Prop} (hfl : ∀ w ∈ am_fl, w.before args s = true) (hA : ∀ a : Nat, a < s.heap.size → ¬ A a) : ∃ z : Nat × Nat, (am_tT 18).eval args s none [] s = some (.ref z.1) ∧ va_O "java/lang/String" z.1 A s s.heap ∧ va_OF "java/lang/String" "coder" "B" (.int 0) z.1 A s s.heap ∧ va_OF "java/lang/String" "value" "[B" (.ref z.2) z.1 A s s.heap ∧ va_T .byte z.2 (am_lit 18).length (fun j => .int (Int32.ofInt ((am_lit 18).getD j 0))) A s s.heap :=
  am_str1 (t := .string "OldFences$Tape" 104) (byt := [110, 111, 116]) (by decide +kernel) (by decide) hA (hfl _ (am_at0_in (i := 236) (by decide +kernel))) (hfl _ (am_at0_in (i := 237) (by decide +kernel))) (hfl _ (am_at0_in (i := 238) (by decide +kernel))) (hfl _ (am_at0_in (i := 239) (by decide +kernel))) (fun j hj => match j, hj with
    | 0, _ => hfl _ (am_at0_in (i := 240) (by decide +kernel))
    | 1, _ => hfl _ (am_at0_in (i := 241) (by decide +kernel))
    | 2, _ => hfl _ (am_at0_in (i := 242) (by decide +kernel))
    | k + 3, h => absurd (show k + 3 < 3 from h) (by omega))
theorem am_str_19 {s : State} {args : Array Value} {A : Nat → Prop} (hfl : ∀ w ∈ am_fl, w.before args s = true) (hA : ∀ a : Nat, a < s.heap.size → ¬ A a) : ∃ z : Nat × Nat, (am_tT 19).eval args s none [] s = some (.ref z.1) ∧ va_O "java/lang/String" z.1 A s s.heap ∧ va_OF "java/lang/String" "coder" "B" (.int 0) z.1 A s s.heap ∧ va_OF "java/lang/String" "value" "[B" (.ref z.2) z.1 A s s.heap ∧ va_T .byte z.2 (am_lit 19).length (fun j => .int (Int32.ofInt ((am_lit 19).getD j 0))) A s s.heap :=
  am_str1 (t := .string "OldFences$Tape" 106) (byt := [97, 99, 114, 111, 115, 115]) (by decide +kernel) (by decide) hA (hfl _ (am_at0_in (i := 243) (by decide +kernel))) (hfl _ (am_at0_in (i := 244) (by decide +kernel))) (hfl _ (am_at0_in (i := 245) (by decide +kernel))) (hfl _ (am_at0_in (i := 246) (by decide +kernel))) (fun j hj => match j, hj with
    | 0, _ => hfl _ (am_at0_in (i := 247) (by decide +kernel))
    | 1, _ => hfl _ (am_at0_in (i := 248) (by decide +kernel))
    | 2, _ => hfl _ (am_at0_in (i := 249) (by decide +kernel))
    | 3, _ => hfl _ (am_at0_in (i := 250) (by decide +kernel))
    | 4, _ => hfl _ (am_at0_in (i := 251) (by decide +kernel))
    | 5, _ => hfl _ (am_at0_in (i := 252) (by decide +kernel))
    | k + 6, h => absurd (show k + 6 < 6 from h) (by omega))
theorem am_str_20 {s : State} {args : Array Value} {A : Nat → Prop} (hfl : ∀ w ∈ am_fl, w.before args s = true) (hA : ∀ a : Nat, a < s.heap.size → ¬ A a) : ∃ z : Nat × Nat, (am_tT 20).eval args s none [] s = some (.ref z.1) ∧ va_O "java/lang/String" z.1 A s s.heap ∧ va_OF "java/lang/String" "coder" "B" (.int 0) z.1 A s s.heap ∧ va_OF "java/lang/String" "value" "[B" (.ref z.2) z.1 A s s.heap ∧ va_T .byte z.2 (am_lit 20).length (fun j => .int (Int32.ofInt ((am_lit 20).getD j 0))) A s s.heap :=
  am_str1 (t := .string "OldFences$Tape" 108) (byt := [98, 111, 114, 100, 101, 114]) (by decide +kernel) (by decide) hA (hfl _ (am_at0_in (i := 253) (by decide +kernel))) (hfl _ (am_at0_in (i := 254) (by decide +kernel))) (hfl _ (am_at0_in (i := 255) (by decide +kernel))) (hfl _ (am_at0_in (i := 256) (by decide +kernel))) (fun j hj => match j, hj with
    | 0, _ => hfl _ (am_at0_in (i := 257) (by decide +kernel))
    | 1, _ => hfl _ (am_at0_in (i := 258) (by decide +kernel))
    | 2, _ => hfl _ (am_at0_in (i := 259) (by decide +kernel))
    | 3, _ => hfl _ (am_at0_in (i := 260) (by decide +kernel))
    | 4, _ => hfl _ (am_at0_in (i := 261) (by decide +kernel))
    | 5, _ => hfl _ (am_at0_in (i := 262) (by decide +kernel))
    | k + 6, h => absurd (show k + 6 < 6 from h) (by omega))
theorem am_str_21 {s : State} {args : Array Value} {A : Nat → Prop} (hfl : ∀ w ∈ am_fl, w.before args s = true) (hA : ∀ a : Nat, a < s.heap.size → ¬ A a) : ∃ z : Nat × Nat, (am_tT 21).eval args s none [] s = some (.ref z.1) ∧ va_O "java/lang/String" z.1 A s s.heap ∧ va_OF "java/lang/String" "coder" "B" (.int 0) z.1 A s s.heap ∧ va_OF "java/lang/String" "value" "[B" (.ref z.2) z.1 A s s.heap ∧ va_T .byte z.2 (am_lit 21).length (fun j => .int (Int32.ofInt ((am_lit 21).getD j 0))) A s s.heap :=
  am_str1 (t := .string "OldFences$Tape" 110) (byt := [120]) (by decide +kernel) (by decide) hA (hfl _ (am_at0_in (i := 263) (by decide +kernel))) (hfl _ (am_at0_in (i := 264) (by decide +kernel))) (hfl _ (am_at0_in (i := 265) (by decide +kernel))) (hfl _ (am_at0_in (i := 266) (by decide +kernel))) (fun j hj => match j, hj with
    | 0, _ => hfl _ (am_at0_in (i := 267) (by decide +kernel))
    | k + 1, h => absurd (show k + 1 < 1 from h) (by omega))
theorem am_str_22 {s : State} {args : Array Value} {A : Nat → Prop} (hfl : ∀ w ∈ am_fl, w.before args s = true) (hA : ∀ a : Nat, a < s.heap.size → ¬ A a) : ∃ z : Nat × Nat, (am_tT 22).eval args s none [] s = some (.ref z.1) ∧ va_O "java/lang/String" z.1 A s s.heap ∧ va_OF "java/lang/String" "coder" "B" (.int 0) z.1 A s s.heap ∧ va_OF "java/lang/String" "value" "[B" (.ref z.2) z.1 A s s.heap ∧ va_T .byte z.2 (am_lit 22).length (fun j => .int (Int32.ofInt ((am_lit 22).getD j 0))) A s s.heap :=
  am_str1 (t := .string "OldFences$Tape" 112) (byt := [121]) (by decide +kernel) (by decide) hA (hfl _ (am_at0_in (i := 268) (by decide +kernel))) (hfl _ (am_at0_in (i := 269) (by decide +kernel))) (hfl _ (am_at0_in (i := 270) (by decide +kernel))) (hfl _ (am_at0_in (i := 271) (by decide +kernel))) (fun j hj => match j, hj with
    | 0, _ => hfl _ (am_at0_in (i := 272) (by decide +kernel))
    | k + 1, h => absurd (show k + 1 < 1 from h) (by omega))
theorem am_strs {s : State} {args : Array Value} {A : Nat → Prop} (hfl : ∀ w ∈ am_fl, w.before args s = true) (hA : ∀ a : Nat, a < s.heap.size → ¬ A a) : ∃ z : Nat → Nat × Nat, ∀ i : Nat, i < 23 → (am_tT i).eval args s none [] s = some (.ref (z i).1) ∧ va_O "java/lang/String" (z i).1 A s s.heap ∧ va_OF "java/lang/String" "coder" "B" (.int 0) (z i).1 A s s.heap ∧ va_OF "java/lang/String" "value" "[B" (.ref (z i).2) (z i).1 A s s.heap ∧ va_T .byte (z i).2 (am_lit i).length (fun j => .int (Int32.ofInt ((am_lit i).getD j 0))) A s s.heap := by
  obtain ⟨z0, h0⟩ := am_str_0 (A := A) hfl hA
  obtain ⟨z1, h1⟩ := am_str_1 (A := A) hfl hA
  obtain ⟨z2, h2⟩ := am_str_2 (A := A) hfl hA
  obtain ⟨z3, h3⟩ := am_str_3 (A := A) hfl hA
  obtain ⟨z4, h4⟩ := am_str_4 (A := A) hfl hA
  obtain ⟨z5, h5⟩ := am_str_5 (A := A) hfl hA
  obtain ⟨z6, h6⟩ := am_str_6 (A := A) hfl hA
  obtain ⟨z7, h7⟩ := am_str_7 (A := A) hfl hA
  obtain ⟨z8, h8⟩ := am_str_8 (A := A) hfl hA
  obtain ⟨z9, h9⟩ := am_str_9 (A := A) hfl hA
  obtain ⟨z10, h10⟩ := am_str_10 (A := A) hfl hA
  obtain ⟨z11, h11⟩ := am_str_11 (A := A) hfl hA
  obtain ⟨z12, h12⟩ := am_str_12 (A := A) hfl hA
  obtain ⟨z13, h13⟩ := am_str_13 (A := A) hfl hA
  obtain ⟨z14, h14⟩ := am_str_14 (A := A) hfl hA
  obtain ⟨z15, h15⟩ := am_str_15 (A := A) hfl hA
  obtain ⟨z16, h16⟩ := am_str_16 (A := A) hfl hA
  obtain ⟨z17, h17⟩ := am_str_17 (A := A) hfl hA
  obtain ⟨z18, h18⟩ := am_str_18 (A := A) hfl hA
  obtain ⟨z19, h19⟩ := am_str_19 (A := A) hfl hA
  obtain ⟨z20, h20⟩ := am_str_20 (A := A) hfl hA
  obtain ⟨z21, h21⟩ := am_str_21 (A := A) hfl hA
  obtain ⟨z22, h22⟩ := am_str_22 (A := A) hfl hA
  refine ⟨fun i => [z0, z1, z2, z3, z4, z5, z6, z7, z8, z9, z10, z11, z12, z13, z14, z15, z16, z17, z18, z19, z20, z21, z22].getD i (0, 0), fun i hi => ?_⟩
  have h9 : i = 0 ∨ i = 1 ∨ i = 2 ∨ i = 3 ∨ i = 4 ∨ i = 5 ∨ i = 6 ∨ i = 7 ∨ i = 8 ∨ i = 9 ∨ i = 10 ∨ i = 11 ∨ i = 12 ∨ i = 13 ∨ i = 14 ∨ i = 15 ∨ i = 16 ∨ i = 17 ∨ i = 18 ∨ i = 19 ∨ i = 20 ∨ i = 21 ∨ i = 22 := by omega
  rcases h9 with rfl | rfl | rfl | rfl | rfl | rfl | rfl | rfl | rfl | rfl | rfl | rfl | rfl | rfl | rfl | rfl | rfl | rfl | rfl | rfl | rfl | rfl | rfl
  · exact h0
  · exact h1
  · exact h2
  · exact h3
  · exact h4
  · exact h5
  · exact h6
  · exact h7
  · exact h8
  · exact h9
  · exact h10
  · exact h11
  · exact h12
  · exact h13
  · exact h14
  · exact h15
  · exact h16
  · exact h17
  · exact h18
  · exact h19
  · exact h20
  · exact h21
  · exact h22
theorem am_eqTM : ∀ i, i < 23 → Cond.eq (am_tT i) (am_tM i) ∈ am_fl := by
  intro i hi
  have h9 : i = 0 ∨ i = 1 ∨ i = 2 ∨ i = 3 ∨ i = 4 ∨ i = 5 ∨ i = 6 ∨ i = 7 ∨ i = 8 ∨ i = 9 ∨ i = 10 ∨ i = 11 ∨ i = 12 ∨ i = 13 ∨ i = 14 ∨ i = 15 ∨ i = 16 ∨ i = 17 ∨ i = 18 ∨ i = 19 ∨ i = 20 ∨ i = 21 ∨ i = 22 := by omega
  rcases h9 with rfl | rfl | rfl | rfl | rfl | rfl | rfl | rfl | rfl | rfl | rfl | rfl | rfl | rfl | rfl | rfl | rfl | rfl | rfl | rfl | rfl | rfl | rfl
  · exact am_at0_in (i := 282) (by decide +kernel)
  · exact am_at0_in (i := 327) (by decide +kernel)
  · exact am_at0_in (i := 338) (by decide +kernel)
  · exact am_at0_in (i := 377) (by decide +kernel)
  · exact am_at0_in (i := 386) (by decide +kernel)
  · exact am_at0_in (i := 290) (by decide +kernel)
  · exact am_at0_in (i := 299) (by decide +kernel)
  · exact am_at0_in (i := 308) (by decide +kernel)
  · exact am_at0_in (i := 319) (by decide +kernel)
  · exact am_at0_in (i := 345) (by decide +kernel)
  · exact am_at0_in (i := 356) (by decide +kernel)
  · exact am_at0_in (i := 365) (by decide +kernel)
  · exact am_at0_in (i := 395) (by decide +kernel)
  · exact am_at0_in (i := 404) (by decide +kernel)
  · exact am_at0_in (i := 413) (by decide +kernel)
  · exact am_at0_in (i := 420) (by decide +kernel)
  · exact am_at0_in (i := 477) (by decide +kernel)
  · exact am_at0_in (i := 470) (by decide +kernel)
  · exact am_at0_in (i := 428) (by decide +kernel)
  · exact am_at0_in (i := 439) (by decide +kernel)
  · exact am_at0_in (i := 450) (by decide +kernel)
  · exact am_at0_in (i := 456) (by decide +kernel)
  · exact am_at0_in (i := 462) (by decide +kernel)
theorem am_cin : ∀ (k : Nat) (z : vw_C), am_cl[k]? = some z → ∃ n, Cond.instantiable z.1 n ∈ lw_tbl := by
  intro k z h
  have hl : k < 13 := (List.getElem?_eq_some_iff.mp h).1
  have h9 : k = 0 ∨ k = 1 ∨ k = 2 ∨ k = 3 ∨ k = 4 ∨ k = 5 ∨ k = 6 ∨ k = 7 ∨ k = 8 ∨ k = 9 ∨ k = 10 ∨ k = 11 ∨ k = 12 := by omega
  rcases h9 with rfl | rfl | rfl | rfl | rfl | rfl | rfl | rfl | rfl | rfl | rfl | rfl | rfl
  · cases h; exact ⟨16, am_hasT_in (i := 241) (by decide +kernel)⟩
  · cases h; exact ⟨1, am_hasT_in (i := 203) (by decide +kernel)⟩
  · cases h; exact ⟨3, am_hasT_in (i := 247) (by decide +kernel)⟩
  · cases h; exact ⟨6, am_hasT_in (i := 999) (by decide +kernel)⟩
  · cases h; exact ⟨7, am_hasT_in (i := 213) (by decide +kernel)⟩
  · cases h; exact ⟨3, am_hasT_in (i := 247) (by decide +kernel)⟩
  · cases h; exact ⟨7, am_hasT_in (i := 408) (by decide +kernel)⟩
  · cases h; exact ⟨6, am_hasT_in (i := 381) (by decide +kernel)⟩
  · cases h; exact ⟨6, am_hasT_in (i := 355) (by decide +kernel)⟩
  · cases h; exact ⟨3, am_hasT_in (i := 438) (by decide +kernel)⟩
  · cases h; exact ⟨7, am_hasT_in (i := 169) (by decide +kernel)⟩
  · cases h; exact ⟨14, am_hasT_in (i := 161) (by decide +kernel)⟩
  · cases h; exact ⟨31, am_hasT_in (i := 1671) (by decide +kernel)⟩
theorem am_start {s : State} {args : Array Value} {b L : Nat} {xs : Nat → Int32} (hts : ∀ w ∈ lw_tbl, w.before args s = true) (hgv : am_C0.before args s = true) (hX : va_X b L xs s s.heap) (hbl : b < s.heap.size) (hL : L ≤ 3072) : ∃ (G : va_G) (yc : Nat → ClassId) (q : Nat → Nat), q 1 = b ∧ am_Ev G yc q s.heap.size (L, fun j => (xs j).toInt) s := by
  have hfl : ∀ w ∈ am_fl, w.before args s = true := flat_of_before _ hgv
  have hgd : ∀ w ∈ am_good, w.before args s = true := fun w hw => hts w (List.mem_filter.mp hw).1
  have hA : ∀ a : Nat, a < s.heap.size → ¬ am_A s.heap.size a := fun a h => Nat.not_le.mpr h
  have hK : ∀ k : Nat, ∃ ci : ClassId × (Nat → Nat), ∀ z : vw_C, am_cl[k]? = some z → u_Kn s z.1 z.2.1 z.2.2 ci.1 ci.2 := by
    intro k
    cases hk : am_cl[k]? with
    | none => exact ⟨(0, fun _ => 0), fun z hz => nomatch hz⟩
    | some z =>
      obtain ⟨n, hn⟩ := am_cin k z hk
      obtain ⟨Cn, T, N⟩ := z
      obtain ⟨c, iS, h⟩ := u_known (C := Cn) (T := T) (N := N) hts (fun w hw => (List.mem_filter.mp ((am_ci_all hk).2.1 w hw)).1) (hts _ hn)
      exact ⟨(c, iS), fun z hz => by cases hz; exact h⟩
  obtain ⟨g, hg⟩ := Classical.axiomOfChoice hK
  obtain ⟨y1, hy1⟩ := am_arr_of (hgd _ am_w_ar_int) (fun C h => by cases h)
  obtain ⟨y2, hy2⟩ := am_arr_of (hgd _ am_w_ar_boolean) (fun C h => by cases h)
  obtain ⟨y3, hy3⟩ := am_arr_of (hgd _ am_w_ar_byte) (fun C h => by cases h)
  obtain ⟨y4, hy4⟩ := am_arr_of (hgd _ am_w_ar_long) (fun C h => by cases h)
  have hao : (Cond.arrayOver (.object "OldFences$County")).before args s = true := hts _ (am_hasT_in (i := 353) (by decide +kernel))
  have haa : (Cond.arrayOver (.array .int)).before args s = true := hts _ (am_hasT_in (i := 387) (by decide +kernel))
  obtain ⟨y5, hy5⟩ := am_arr_obj hao
  obtain ⟨y6, hy6⟩ := am_arr_arr haa
  obtain ⟨z, hz⟩ := am_strs (A := am_A s.heap.size) hfl hA
  refine ⟨(fun k => (g k).1, fun k => (g k).2), fun k => match k with
    | 1 => y1
    | 2 => y2
    | 3 => y3
    | 4 => y4
    | 5 => y5
    | _ => y6, fun k => if k = 1 then b else if k < 200 then (z (k - 2)).1 else (z (k - 200)).2, rfl, ⟨fun k q hk => hg k q hk, fun k q hk => ?_⟩, fun i hi => ?_, ⟨?_, hbl, hL, fun j => am_n32_toInt _⟩, ?_, ?_, ?_, ?_, ?_, ?_, ?_, hao, haa, Nat.le_refl _⟩
  · have h6 : k < 6 := (List.getElem?_eq_some_iff.mp hk).1
    have h9 : k = 0 ∨ k = 1 ∨ k = 2 ∨ k = 3 ∨ k = 4 ∨ k = 5 := by omega
    rcases h9 with rfl | rfl | rfl | rfl | rfl | rfl
    · cases hk; exact hy1
    · cases hk; exact hy2
    · cases hk; exact hy3
    · cases hk; exact hy4
    · cases hk; exact hy5
    · cases hk; exact hy6
  · have e1 : (if i + 2 = 1 then b else if i + 2 < 200 then (z (i + 2 - 2)).1 else (z (i + 2 - 200)).2) = (z i).1 := by
      rw [if_neg (by omega), if_pos (by omega), Nat.add_sub_cancel]
    have e2 : (if i + 200 = 1 then b else if i + 200 < 200 then (z (i + 200 - 2)).1 else (z (i + 200 - 200)).2) = (z i).2 := by
      rw [if_neg (by omega), if_neg (by omega), Nat.add_sub_cancel]
    show va_O _ (if i + 2 = 1 then b else if i + 2 < 200 then (z (i + 2 - 2)).1 else (z (i + 2 - 200)).2) _ _ _ ∧ va_OF _ _ _ _ (if i + 2 = 1 then b else if i + 2 < 200 then (z (i + 2 - 2)).1 else (z (i + 2 - 200)).2) _ _ _ ∧ va_OF _ _ _ (.ref (if i + 200 = 1 then b else if i + 200 < 200 then (z (i + 200 - 2)).1 else (z (i + 200 - 200)).2)) (if i + 2 = 1 then b else if i + 2 < 200 then (z (i + 2 - 2)).1 else (z (i + 2 - 200)).2) _ _ _ ∧ va_T _ (if i + 200 = 1 then b else if i + 200 < 200 then (z (i + 200 - 2)).1 else (z (i + 200 - 200)).2) _ _ _ _ _
    rw [e1, e2]
    exact (hz i hi).2
  · show va_X b L (fun j => Int32.ofInt (((L, fun j => (xs j).toInt) : Nat × (Nat → Int)).2 j)) s s.heap
    have e2 : (fun j => Int32.ofInt (((L, fun j => (xs j).toInt) : Nat × (Nat → Int)).2 j)) = xs := by
      funext j
      exact Int32.ofInt_toInt (xs j)
    rw [e2]
    exact hX
  · exact va_Zof (hts _ (am_hasT_in (i := 743) (by decide +kernel))) (hts _ (am_hasT_in (i := 143) (by decide +kernel))) (va_eqt (hfl _ (am_at0_in (i := 4) (by decide +kernel)))) hA
  · exact va_Zqof (hts _ (am_hasT_in (i := 759) (by decide +kernel))) (hts _ (am_hasT_in (i := 145) (by decide +kernel))) (hfl _ (am_at0_in (i := 5) (by decide +kernel))) hA
  · exact vx_Zqof (hts _ (am_hasT_in (i := 889) (by decide +kernel))) (hts _ (am_hasT_in (i := 149) (by decide +kernel))) (hfl _ (am_at0_in (i := 9) (by decide +kernel))) hA
  · exact vx_Zqof (hts _ (am_hasT_in (i := 891) (by decide +kernel))) (hts _ (am_hasT_in (i := 149) (by decide +kernel))) (hfl _ (am_at0_in (i := 10) (by decide +kernel))) hA
  · intro a b hab
    obtain ⟨a1, ha1, e1⟩ := am_xn_up a
    obtain ⟨b1, hb1, e2⟩ := am_xn_up b
    rw [e1, e2] at hab ⊢
    have h := List.all_eq_true.mp (List.all_eq_true.mp am_ncB a1 (List.mem_range.mpr ha1)) b1 (List.mem_range.mpr hb1)
    simp only [Bool.or_eq_true, decide_eq_true_eq] at h
    rcases h with h | h
    · exact absurd h hab
    · exact va_Nc.of (hfl _ h)
  · intro own k tx hw j hj hl
    have e1 : (if j + 2 = 1 then b else if j + 2 < 200 then (z (j + 2 - 2)).1 else (z (j + 2 - 200)).2) = (z j).1 := by
      rw [if_neg (by omega), if_pos (by omega), Nat.add_sub_cancel]
    show vk_R own k tx (if j + 2 = 1 then b else if j + 2 < 200 then (z (j + 2 - 2)).1 else (z (j + 2 - 200)).2) s
    rw [e1]
    have h := List.all_eq_true.mp am_srB_ok _ hw
    obtain ⟨i, hi, h⟩ := List.any_eq_true.mp h
    simp only [Bool.and_eq_true, Bool.or_eq_true, decide_eq_true_eq] at h
    have hi := List.mem_range.mp hi
    have hij : i = j := am_ltx_inj i hi j hl (h.1.trans hj.symm)
    subst hij
    rcases h.2 with ⟨rfl, rfl⟩ | ⟨rfl, rfl⟩
    · exact vk_R.of (hts _ hw) (hz i hi).1
    · exact vk_R.of (hts _ hw) (va_eqR (hfl _ (am_eqTM i hi)) (hz i hi).1)
  · exact fun w hw hx => va_Nw.of (am_xw_tab hx) (hts w hw)
