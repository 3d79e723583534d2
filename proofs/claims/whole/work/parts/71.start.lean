/-! THE LAW'S ENTRY: what stands there -/
def am_h0 : am_H := (0, 0, 0, fun _ => (0, 0), fun _ _ => 0, fun _ _ => none)
def am_kT : List Nat := [65, 71, 73, 75, 77, 79, 81, 83, 85, 87, 88, 90, 92, 94, 96, 98, 100, 102, 104, 106, 108, 110, 112]
def am_kM : List Nat := [194, 200, 205, 210, 215, 169, 175, 177, 179, 189, 190, 192, 265, 267, 269, 271, 263, 258, 247, 239, 220, 222, 224]
def am_tT (i : Nat) : Term := .string "OldFences$Tape" (am_kT.getD i 0)
def am_tM (i : Nat) : Term := .string "OldFencesModel" (am_kM.getD i 0)
def am_C0 : Cond := Jvm.Cond.and given_1 narrow_1
noncomputable def am_fl : List Cond := flatC am_C0
noncomputable def am_lchk : Bool := (List.range 23).all fun i => ((decide (Cond.exactly (am_tT i) "java/lang/String" ∈ am_fl) && decide (Cond.eq (.field (am_tT i) "java/lang/String" "coder" "B") (.int 0) ∈ am_fl)) && (decide (Cond.arrayOf (.field (am_tT i) "java/lang/String" "value" "[B") .byte ∈ am_fl) && decide (Cond.eq (.length (.field (am_tT i) "java/lang/String" "value" "[B")) (.int (Int32.ofNat (am_lit i).length)) ∈ am_fl))) && (decide (Cond.eq (am_tT i) (am_tM i) ∈ am_fl) && (List.range (am_lit i).length).all fun j => decide (Cond.eq (.elem (.field (am_tT i) "java/lang/String" "value" "[B") (.int (Int32.ofNat j))) (.int (Int32.ofInt ((am_lit i).getD j 0))) ∈ am_fl))
theorem am_lchk_ok : am_lchk = true := by decide +kernel
def am_srB : Cond → Bool
  | .stringRef own k tx => (List.range 23).any fun i => decide (am_ltx.getD i "" = tx) && ((decide (own = "OldFences$Tape") && decide (k = am_kT.getD i 0)) || (decide (own = "OldFencesModel") && decide (k = am_kM.getD i 0)))
  | _ => true
theorem am_srB_ok : lw_tbl.all am_srB = true := by decide +kernel
theorem am_ltx_inj : ∀ i, i < 23 → ∀ j, j < 23 → am_ltx.getD i "" = am_ltx.getD j "" → i = j := by decide +kernel
theorem am_lit_short : ∀ i, i < 23 → (am_lit i).length < 2 ^ 31 := by decide +kernel
theorem am_ncB : ((List.range 6).all fun a => (List.range 6).all fun b => decide (am_xn a = am_xn b) || decide (Cond.not (.castable (am_xn a) (am_xn b)) ∈ am_fl)) = true := by decide +kernel
theorem am_xn_up (a : Nat) : ∃ b, b < 6 ∧ am_xn a = am_xn b := by
  rcases Nat.lt_or_ge a 6 with h | h
  · exact ⟨a, h, rfl⟩
  · refine ⟨5, by omega, ?_⟩
    obtain ⟨k, rfl⟩ : ∃ k, a = k + 5 := ⟨a - 5, by omega⟩
    rfl
theorem am_arr_of {s : State} {args : Array Value} {ty : FieldType} (h : (Cond.arrayClass ty).before args s = true) (hty : ∀ C, ty ≠ .object C) : ∃ y, ArrOfT s y ty ∧ va_RA s y ty := by
  obtain ⟨c, k, comp, h1, h2, h3⟩ := Cond.arrayClass_spec (args := args) (first := s) (o := none) (idx := []) h
  refine ⟨c, fun n z => ⟨fun k h => by cases h, k, h2, comp, h3⟩, ?_⟩
  cases ty with
  | object C => exact absurd rfl (hty C)
  | _ => exact h1
theorem am_arr_obj {s : State} {args : Array Value} {C : String} (h : (Cond.arrayOver (.object C)).before args s = true) : ∃ y, ArrOfT s y (.object C) ∧ va_RA s y (.object C) := by
  obtain ⟨comp, c, k, h1, -, h2, h3, h4⟩ := Cond.arrayOver_spec (args := args) (first := s) (o := none) (idx := []) h
  exact ⟨c, fun n z => ⟨fun k h => by cases h, k, h2, comp, h3⟩, k, comp, h2, h3, h1, h4⟩
theorem am_arr_arr {s : State} {args : Array Value} {t : FieldType} (h : (Cond.arrayOver (.array t)).before args s = true) : ∃ y, ArrOfT s y (.array t) ∧ va_RA s y (.array t) := by
  obtain ⟨comp, c, k, h1, h2, h3, h4⟩ := Cond.arrayOver_specA (args := args) (first := s) (o := none) (idx := []) h
  exact ⟨c, fun n z => ⟨fun k h => by cases h, k, h2, comp, h3⟩, h4⟩
theorem am_strs {s : State} {args : Array Value} {A : Nat → Prop} (hfl : ∀ w ∈ am_fl, w.before args s = true) (hA : ∀ a : Nat, a < s.heap.size → ¬ A a) : ∃ z : Nat → Nat × Nat, ∀ i : Nat, i < 23 → (am_tT i).eval args s none [] s = some (.ref (z i).1) ∧ va_O "java/lang/String" (z i).1 A s s.heap ∧ va_OF "java/lang/String" "coder" "B" (.int 0) (z i).1 A s s.heap ∧ va_OF "java/lang/String" "value" "[B" (.ref (z i).2) (z i).1 A s s.heap ∧ va_T .byte (z i).2 (am_lit i).length (fun j => .int (Int32.ofInt ((am_lit i).getD j 0))) A s s.heap := by
  have h0 : ∀ i : Nat, ∃ z : Nat × Nat, i < 23 → (am_tT i).eval args s none [] s = some (.ref z.1) ∧ va_O "java/lang/String" z.1 A s s.heap ∧ va_OF "java/lang/String" "coder" "B" (.int 0) z.1 A s s.heap ∧ va_OF "java/lang/String" "value" "[B" (.ref z.2) z.1 A s s.heap ∧ va_T .byte z.2 (am_lit i).length (fun j => .int (Int32.ofInt ((am_lit i).getD j 0))) A s s.heap := by
    intro i
    by_cases hi : i < 23
    · have hc := List.all_eq_true.mp am_lchk_ok i (List.mem_range.mpr hi)
      simp only [Bool.and_eq_true, decide_eq_true_eq] at hc
      obtain ⟨⟨⟨c1, c2⟩, c3, c4⟩, c5, c6⟩ := hc
      obtain ⟨a, c, cA, kA, q1, q2, q3, q4, q5, q6, -⟩ := Cond.exactly_spec (args := args) (first := s) (o := none) (s := s) (idx := []) (t := am_tT i) (cls := "java/lang/String") (hfl _ c1)
      obtain ⟨t, ht, hT⟩ := va_Tof (f := fun j => .int (Int32.ofInt ((am_lit i).getD j 0))) (A := A) (am_lit_short i hi) (hfl _ c3) (va_eqt (hfl _ c4)) (fun j hj => va_eqt (hfl _ (of_decide_eq_true (List.all_eq_true.mp c6 j (List.mem_range.mpr hj))))) hA
      exact ⟨(a, t), fun _ => ⟨q1, ⟨cA, q3, q5, by rw [q6]; exact q2, hA a (Array.getElem?_eq_some_iff.mp q3).1⟩, vk_OFof q1 (va_eqt (hfl _ c2)) hA, vk_OFof q1 ht hA, hT⟩⟩
    · exact ⟨(0, 0), fun h => absurd h hi⟩
  obtain ⟨z, hz⟩ := Classical.axiomOfChoice h0
  exact ⟨z, hz⟩
theorem am_cin : ∀ k z, am_cl[k]? = some z → ∃ n, Cond.instantiable z.1 n ∈ lw_tbl := by
  intro k z h
  have hl : k < 13 := (List.getElem?_eq_some_iff.mp h).1
  have h9 : k = 0 ∨ k = 1 ∨ k = 2 ∨ k = 3 ∨ k = 4 ∨ k = 5 ∨ k = 6 ∨ k = 7 ∨ k = 8 ∨ k = 9 ∨ k = 10 ∨ k = 11 ∨ k = 12 := by omega
  rcases h9 with rfl | rfl | rfl | rfl | rfl | rfl | rfl | rfl | rfl | rfl | rfl | rfl | rfl
  · cases h; exact ⟨16, am_hasT_in (i := 241) (by decide +kernel)⟩
  · cases h; exact ⟨1, am_hasT_in (i := 203) (by decide +kernel)⟩
  · cases h; exact ⟨3, am_hasT_in (i := 247) (by decide +kernel)⟩
  · cases h; exact ⟨6, am_hasT_in (i := 999) (by decide +kernel)⟩
  · cases h; exact ⟨7, am_hasT_in (i := 213) (by decide +kernel)⟩
  · cases h; exact ⟨3, am_hasT_in (i := 247) (by decide +kernel)⟩
  · cases h; exact ⟨7, am_hasT_in (i := 408) (by decide +kernel)⟩
  · cases h; exact ⟨6, am_hasT_in (i := 381) (by decide +kernel)⟩
  · cases h; exact ⟨6, am_hasT_in (i := 355) (by decide +kernel)⟩
  · cases h; exact ⟨3, am_hasT_in (i := 438) (by decide +kernel)⟩
  · cases h; exact ⟨7, am_hasT_in (i := 169) (by decide +kernel)⟩
  · cases h; exact ⟨14, am_hasT_in (i := 161) (by decide +kernel)⟩
  · cases h; exact ⟨31, am_hasT_in (i := 1671) (by decide +kernel)⟩
theorem am_start {s : State} {args : Array Value} {b L : Nat} {xs : Nat → Int32} (hts : ∀ w ∈ lw_tbl, w.before args s = true) (hgv : am_C0.before args s = true) (hX : va_X b L xs s s.heap) (hbl : b < s.heap.size) (hL : L ≤ 3072) : ∃ (G : va_G) (yc : Nat → ClassId) (q : Nat → Nat), q 1 = b ∧ am_Ev G yc q s.heap.size (L, fun j => (xs j).toInt) s := by
  have hfl : ∀ w ∈ am_fl, w.before args s = true := flat_of_before _ hgv
  have hgd : ∀ w ∈ am_good, w.before args s = true := fun w hw => hts w (List.mem_filter.mp hw).1
  have hA : ∀ a : Nat, a < s.heap.size → ¬ am_A s.heap.size a := fun a h => Nat.not_le.mpr h
  have hK : ∀ k : Nat, ∃ ci : ClassId × (Nat → Nat), ∀ z : vw_C, am_cl[k]? = some z → u_Kn s z.1 z.2.1 z.2.2 ci.1 ci.2 := by
    intro k
    cases hk : am_cl[k]? with
    | none => exact ⟨(0, fun _ => 0), fun z hz => nomatch hz⟩
    | some z =>
      obtain ⟨n, hn⟩ := am_cin k z hk
      obtain ⟨Cn, T, N⟩ := z
      obtain ⟨c, iS, h⟩ := u_known (C := Cn) (T := T) (N := N) hts (fun w hw => (List.mem_filter.mp ((am_ci_all hk).2.1 w hw)).1) (hts _ hn)
      exact ⟨(c, iS), fun z hz => by cases hz; exact h⟩
  obtain ⟨g, hg⟩ := Classical.axiomOfChoice hK
  obtain ⟨y1, hy1⟩ := am_arr_of (hgd _ am_w_ar_int) (fun C h => by cases h)
  obtain ⟨y2, hy2⟩ := am_arr_of (hgd _ am_w_ar_boolean) (fun C h => by cases h)
  obtain ⟨y3, hy3⟩ := am_arr_of (hgd _ am_w_ar_byte) (fun C h => by cases h)
  obtain ⟨y4, hy4⟩ := am_arr_of (hgd _ am_w_ar_long) (fun C h => by cases h)
  have hao : (Cond.arrayOver (.object "OldFences$County")).before args s = true := hts _ (am_hasT_in (i := 353) (by decide +kernel))
  have haa : (Cond.arrayOver (.array .int)).before args s = true := hts _ (am_hasT_in (i := 387) (by decide +kernel))
  obtain ⟨y5, hy5⟩ := am_arr_obj hao
  obtain ⟨y6, hy6⟩ := am_arr_arr haa
  obtain ⟨z, hz⟩ := am_strs (A := am_A s.heap.size) hfl hA
  refine ⟨(fun k => (g k).1, fun k => (g k).2), fun k => match k with
    | 1 => y1
    | 2 => y2
    | 3 => y3
    | 4 => y4
    | 5 => y5
    | _ => y6, fun k => if k = 1 then b else if k < 200 then (z (k - 2)).1 else (z (k - 200)).2, rfl, ⟨fun k q hk => hg k q hk, fun k q hk => ?_⟩, fun i hi => ?_, ⟨?_, hbl, hL, fun j => am_n32_toInt _⟩, ?_, ?_, ?_, ?_, ?_, ?_, ?_, hao, haa, Nat.le_refl _⟩
  · have h6 : k < 6 := (List.getElem?_eq_some_iff.mp hk).1
    have h9 : k = 0 ∨ k = 1 ∨ k = 2 ∨ k = 3 ∨ k = 4 ∨ k = 5 := by omega
    rcases h9 with rfl | rfl | rfl | rfl | rfl | rfl
    · cases hk; exact hy1
    · cases hk; exact hy2
    · cases hk; exact hy3
    · cases hk; exact hy4
    · cases hk; exact hy5
    · cases hk; exact hy6
  · have e1 : (if i + 2 = 1 then b else if i + 2 < 200 then (z (i + 2 - 2)).1 else (z (i + 2 - 200)).2) = (z i).1 := by
      rw [if_neg (by omega), if_pos (by omega), Nat.add_sub_cancel]
    have e2 : (if i + 200 = 1 then b else if i + 200 < 200 then (z (i + 200 - 2)).1 else (z (i + 200 - 200)).2) = (z i).2 := by
      rw [if_neg (by omega), if_neg (by omega), Nat.add_sub_cancel]
    show va_O _ (if i + 2 = 1 then b else if i + 2 < 200 then (z (i + 2 - 2)).1 else (z (i + 2 - 200)).2) _ _ _ ∧ va_OF _ _ _ _ (if i + 2 = 1 then b else if i + 2 < 200 then (z (i + 2 - 2)).1 else (z (i + 2 - 200)).2) _ _ _ ∧ va_OF _ _ _ (.ref (if i + 200 = 1 then b else if i + 200 < 200 then (z (i + 200 - 2)).1 else (z (i + 200 - 200)).2)) (if i + 2 = 1 then b else if i + 2 < 200 then (z (i + 2 - 2)).1 else (z (i + 2 - 200)).2) _ _ _ ∧ va_T _ (if i + 200 = 1 then b else if i + 200 < 200 then (z (i + 200 - 2)).1 else (z (i + 200 - 200)).2) _ _ _ _ _
    rw [e1, e2]
    exact (hz i hi).2
  · have e : (fun j => Int32.ofInt ((L, fun j => (xs j).toInt) : Nat × (Nat → Int)).2 j) = xs := by
      funext j
      exact Int32.ofInt_toInt (xs j)
    show va_X b L (fun j => Int32.ofInt (((L, fun j => (xs j).toInt) : Nat × (Nat → Int)).2 j)) s s.heap
    have e2 : (fun j => Int32.ofInt (((L, fun j => (xs j).toInt) : Nat × (Nat → Int)).2 j)) = xs := by
      funext j
      exact Int32.ofInt_toInt (xs j)
    rw [e2]
    exact hX
  · exact va_Zof (hts _ (am_hasT_in (i := 743) (by decide +kernel))) (hts _ (am_hasT_in (i := 143) (by decide +kernel))) (va_eqt (hfl _ (by decide +kernel))) hA
  · exact va_Zqof (hts _ (am_hasT_in (i := 759) (by decide +kernel))) (hts _ (am_hasT_in (i := 145) (by decide +kernel))) (hfl _ (by decide +kernel)) hA
  · exact vx_Zqof (hts _ (am_hasT_in (i := 889) (by decide +kernel))) (hts _ (am_hasT_in (i := 149) (by decide +kernel))) (hfl _ (by decide +kernel)) hA
  · exact vx_Zqof (hts _ (am_hasT_in (i := 891) (by decide +kernel))) (hts _ (am_hasT_in (i := 149) (by decide +kernel))) (hfl _ (by decide +kernel)) hA
  · intro a b hab
    obtain ⟨a1, ha1, e1⟩ := am_xn_up a
    obtain ⟨b1, hb1, e2⟩ := am_xn_up b
    rw [e1, e2] at hab ⊢
    have h := List.all_eq_true.mp (List.all_eq_true.mp am_ncB a1 (List.mem_range.mpr ha1)) b1 (List.mem_range.mpr hb1)
    simp only [Bool.or_eq_true, decide_eq_true_eq] at h
    rcases h with h | h
    · exact absurd h hab
    · exact va_Nc.of (hfl _ h)
  · intro own k tx hw j hj hl
    have e1 : (if j + 2 = 1 then b else if j + 2 < 200 then (z (j + 2 - 2)).1 else (z (j + 2 - 200)).2) = (z j).1 := by
      rw [if_neg (by omega), if_pos (by omega), Nat.add_sub_cancel]
    show vk_R own k tx (if j + 2 = 1 then b else if j + 2 < 200 then (z (j + 2 - 2)).1 else (z (j + 2 - 200)).2) s
    rw [e1]
    have h := List.all_eq_true.mp am_srB_ok _ hw
    obtain ⟨i, hi, h⟩ := List.any_eq_true.mp h
    simp only [Bool.and_eq_true, Bool.or_eq_true, decide_eq_true_eq] at h
    have hi := List.mem_range.mp hi
    have hij : i = j := am_ltx_inj i hi j hl (h.1.trans hj.symm)
    subst hij
    have hc := List.all_eq_true.mp am_lchk_ok i (List.mem_range.mpr hi)
    simp only [Bool.and_eq_true, decide_eq_true_eq] at hc
    rcases h.2 with ⟨rfl, rfl⟩ | ⟨rfl, rfl⟩
    · exact vk_R.of (hts _ hw) (hz i hi).1
    · exact vk_R.of (hts _ hw) (va_eqR (hfl _ hc.2.1) (hz i hi).1)
  · exact fun w hw hx => va_Nw.of (am_xw_tab hx) (hts w hw)
