/-! STEPS: rows of references, objects -/
/-- what the tables say of a class of the program -/
def am_CI (ci : Nat) (Cn : String) (T : u_T) (N : Nat) (ty : Nat → FieldType) : Prop :=
  am_cl[ci]? = some (Cn, T, N) ∧ (∀ w ∈ u_ws Cn T N, w ∈ am_good) ∧ am_N ci = N ∧ (∀ k, k < N → parseFieldDescriptor (T k).2.2.1 = some (ty k)) ∧ (∀ a, a < N → ∀ b, b < N → a ≠ b → (T a).2.1 ≠ (T b).2.1) ∧
  (∀ k, k < N → (T k).1 = Cn) ∧ (∀ k, k < N → (am_ir ci k = true ∧ (∀ r : Option Nat, narrow (ty k) (va_rf r) = va_rf r ∧ fits (ty k) (va_rf r) = true) ∧ defaultValue (ty k) = .null) ∨ (am_ir ci k = false ∧ (ty k = .int ∨ ty k = .boolean))) ∧ N ≤ 100000
theorem am_set_map {α : Type} {f : Nat → α} {v : α} {k : Nat} : ∀ {n : Nat}, ((List.range n).map f).set k v = (List.range n).map (fun j => if j = k then v else f j) := by
  intro n
  apply List.ext_getElem?
  intro j
  rw [List.getElem?_set, List.getElem?_map, List.getElem?_map]
  by_cases hj : k = j
  · subst hj
    by_cases hl : k < n
    · simp [hl]
    · have : (List.range n)[k]? = none := by simp; omega
      simp [this, hl]
  · simp only [if_neg hj]
    by_cases hl : j < n
    · simp [hl, Ne.symm hj, fun e => hj (Eq.symm e)]
    · have : (List.range n)[j]? = none := by simp; omega
      simp [this]
section
variable {l : Launch} {sc : Nat × (Nat → Int)} {d : Nat} {M : am_M} {r : (am_V ⊕ Nat) × am_H} {pc : Nat} {ls st : List am_V} {h : am_H}
theorem am_aald6 {p : Program} {e : Env} {R : Room} {s : State} {m : MethodId} {args : Array Value} {below : List Frame} {meth : Method} {c : Code} {H : Heap} {locs : List Loc} {cells slots : Nat} {Q : State → Prop} {cc : ByteArray} {pc : Nat} {ls : Array Slot} {rest : List Value} {D : va_G} {cl : List vw_C} {a : Nat} {tys : List (ClassId × FieldType)} {ws : va_W}
    (hexec : p.tables.exec = Jvm.exec) (hb : c.code = cc) (hK : va_K D cl tys s) (hP : va_P D cl ws H) (q0 t0 : Nat) {cA : ClassId} {t : FieldType} {n : Nat} {f : Nat → Option Nat} (ha : ws[q0]? = some (a, .inl (cA, n, .inr (.inr (.inr (.inr f)))))) (ht : tys[t0]? = some (cA, .array t)) {i : Int32} (hin : vp_in i n) (hdg : decode cc pc = .ok (.aaload, 1))
    (kk : W p l e R s m args below meth c H locs cells slots Q (F0 m (pc + 1) ls (va_rf (f i.toNatClampNeg) :: rest))) : W p l e R s m args below meth c H locs cells slots Q (F0 m pc ls (.int i :: .ref a :: rest)) := by
  have hlt : i.toNatClampNeg < n := Nat.not_le.mp fun q => hin (Or.inr q)
  exact W.aald (v := va_rf (f i.toNatClampNeg)) (ty := .array t) hexec hb (hP q0 _ ha) ((hK.2 t0 _ ht).1 n (fun j => va_rf (f j))) rfl (fun q => by cases q) (by show ¬ (i < 0 ∨ (arrV _ _ _).slots.size ≤ _); rw [arrV_size]; exact hin) (by show (arrV _ _ _).slots[_]? = _; rw [arrV_read _ _ hlt]) rfl rfl hdg kk
theorem am_vk_rP {h : am_H} (hh : am_hk h) (a i : Nat) : am_vk h (Vr (rP h a i)) := by
  cases e : rP h a i with
  | none => trivial
  | some b => exact hh.2.1 a i b e
theorem am_s_aald {a t : Nat} {i : Int} (ht : (hT h a).1 = t ∧ 0 ≤ i ∧ i < (hT h a).2) (h5 : t = 5 ∨ t = 6) (hd : decode M.2.1 pc = .ok (.aaload, 1)) (k : am_P l sc d M (pc + 1) ls (Vr (rP h a i.toNat) :: st) h r) : am_P l sc d M pc ls (Vi i :: Vr (some a) :: st) h r := by
  refine am_stk k (fun {p e R s m args below meth c H locs cells slots Q G yc q n0 ad lsA stA} C hw hV hl hlk hsk hs kk => ?_) (fun hh hl hs => am_lk_c (am_vk_rP hh _ _) (am_lk_t (am_lk_t hs)))
  obtain ⟨m1, rfl, hs1⟩ := am_sl_i hs
  obtain ⟨m2, rfl, hs2⟩ := am_sl_r hs1
  have hi : am_n32 i := am_lk_h hsk
  have hg := am_w_get (ad := ad) (ys := yc) (h := h) (k := a) (am_lk_h (am_lk_t hsk))
  rcases h5 with rfl | rfl
  · rw [am_e_p ht.1 (by omega)] at hg
    exact va_aldq C.1 C.2.1 C.ev.1 hw.1 a 4 hg rfl (am_in hi ht.2.1 ht.2.2) hd (kk _ ⟨by rw [am_clamp hi]; rfl, hs2⟩)
  · rw [am_e_p ht.1 (by omega)] at hg
    exact am_aald6 C.1 C.2.1 C.ev.1 hw.1 a 5 hg rfl (am_in hi ht.2.1 ht.2.2) hd (kk _ ⟨by rw [am_clamp hi]; rfl, hs2⟩)
theorem am_s_aast {a b : Nat} {i : Int} (ht : (hT h a).1 = 5 ∧ 0 ≤ i ∧ i < (hT h a).2 ∧ hT h b = (0, 0)) (hd : decode M.2.1 pc = .ok (.aastore, 1)) (k : am_P l sc d M (pc + 1) ls st (wP h a i.toNat (some b)) r) : am_P l sc d M pc ls (Vr (some b) :: Vi i :: Vr (some a) :: st) h r := by
  refine am_wrt k (wP_h h a _ _) (fun {p e R s m args below meth c H locs cells slots Q G yc q n0 ad lsA stA} C hw hV hl hlk hsk hs _ _ kk => ?_) (fun hs => am_lk_t (am_lk_t (am_lk_t hs)))
  obtain ⟨m1, rfl, hs1⟩ := am_sl_r hs
  obtain ⟨m2, rfl, hs2⟩ := am_sl_i hs1
  obtain ⟨m3, rfl, hs3⟩ := am_sl_r hs2
  have hi : am_n32 i := am_lk_h (am_lk_t hsk)
  have hb : b < hZ h := am_lk_h hsk
  have ha : a < hZ h := am_lk_h (am_lk_t (am_lk_t hsk))
  have hg := am_w_get (ad := ad) (ys := yc) ha
  rw [am_e_p ht.1 (by omega)] at hg
  have hgb := am_w_get (ad := ad) (ys := yc) hb
  rw [am_e_o ht.2.2.2] at hgb
  have hset := am_w_set (ad := ad) (ys := yc) (h := h) (h1 := wP h a i.toNat (some b)) ha rfl (fun j hj => am_e_wP hj hw.2.2)
  rw [am_e_p (h := wP h a i.toNat (some b)) (t := 5) ht.1 (by omega)] at hset
  refine va_astq C.1 C.2.1 C.ev.1 hw.1 hw.2.1 hV a 4 b 0 hg rfl hgb rfl (am_in hi ht.2.1 ht.2.2.1) hd fun H1 locs1 hP1 hD1 hV1 => ?_
  have e : va_up (fun j => (rP h a j).map ad) i.toNat (some (ad b)) = (fun j => (rP (wP h a i.toNat (some b)) a j).map ad) := by
    funext j
    unfold va_up
    rw [rP_wP]
    by_cases hj : j = i.toNat <;> simp [hj]
  rw [am_clamp hi, e] at hP1 hD1
  exact kk H1 locs1 _ ⟨hset ▸ hP1, hset ▸ hD1, am_hk_wP hw.2.2 (fun x hx => by cases hx; exact hb)⟩ hV1 hs3
theorem am_obj_at {ad : Nat → Nat} {yc : Nat → ClassId} {a ci j N : Nat} (ht : hT h a = (0, ci)) (hN : am_N ci = N) (hj : j < N) : ((List.range (am_N ci)).map fun j => if am_ir ci j = true then va_rf ((rP h a j).map ad) else Value.int (Int32.ofInt (rI h a j)))[j]? = some (if am_ir ci j = true then va_rf ((rP h a j).map ad) else .int (Int32.ofInt (rI h a j))) := by
  rw [List.getElem?_map, List.getElem?_range (by omega)]
  rfl
theorem am_s_getI {a ci j N idx : Nat} {Cn : String} {T : u_T} {ty : Nat → FieldType} (hc : am_CI ci Cn T N ty) (hj : j < N) (hir : am_ir ci j = false) (ht : hT h a = (0, ci)) (hlink : Cond.fieldLink M.1.cls idx Cn (T j).2.1 (T j).2.2.1 ∈ am_good) (hd : decode M.2.1 pc = .ok (.getfield idx, 3)) (k : am_P l sc d M (pc + 3) ls (Vi (rI h a j) :: st) h r) : am_P l sc d M pc ls (Vr (some a) :: st) h r := by
  refine am_stk k (fun {p e R s m args below meth c H locs cells slots Q G yc q n0 ad lsA stA} C hw hV hl hlk hsk hs kk => ?_) (fun hh hl hs => am_lk_c (hh.1 _ _) (am_lk_t hs))
  obtain ⟨m1, rfl, hs1⟩ := am_sl_r hs
  have hg := am_w_get (ad := ad) (ys := yc) (h := h) (k := a) (am_lk_h hsk)
  rw [am_e_o ht] at hg
  have hv := am_obj_at (ad := ad) (yc := yc) ht hc.2.2.1 hj
  rw [hir] at hv
  exact va_get C.1 C.2.1 C.2.2.2.2.1 hc.2.1 C.2.2.2.1 C.ev.1 hw.1 a hg hc.1 j hj (C.2.2.2.2.1 _ hlink) (fun x hx => by rw [hc.2.2.2.2.2.1 j hj] at hx; exact hx) hv hd (kk _ ⟨rfl, hs1⟩)
theorem am_s_getP {a ci j N idx : Nat} {Cn : String} {T : u_T} {ty : Nat → FieldType} (hc : am_CI ci Cn T N ty) (hj : j < N) (hir : am_ir ci j = true) (ht : hT h a = (0, ci)) (hlink : Cond.fieldLink M.1.cls idx Cn (T j).2.1 (T j).2.2.1 ∈ am_good) (hd : decode M.2.1 pc = .ok (.getfield idx, 3)) (k : am_P l sc d M (pc + 3) ls (Vr (rP h a j) :: st) h r) : am_P l sc d M pc ls (Vr (some a) :: st) h r := by
  refine am_stk k (fun {p e R s m args below meth c H locs cells slots Q G yc q n0 ad lsA stA} C hw hV hl hlk hsk hs kk => ?_) (fun hh hl hs => am_lk_c (am_vk_rP hh _ _) (am_lk_t hs))
  obtain ⟨m1, rfl, hs1⟩ := am_sl_r hs
  have hg := am_w_get (ad := ad) (ys := yc) (h := h) (k := a) (am_lk_h hsk)
  rw [am_e_o ht] at hg
  have hv := am_obj_at (ad := ad) (yc := yc) ht hc.2.2.1 hj
  rw [hir] at hv
  exact va_get C.1 C.2.1 C.2.2.2.2.1 hc.2.1 C.2.2.2.1 C.ev.1 hw.1 a hg hc.1 j hj (C.2.2.2.2.1 _ hlink) (fun x hx => by rw [hc.2.2.2.2.2.1 j hj] at hx; exact hx) hv hd (kk _ ⟨rfl, hs1⟩)
/-- a field may be written here -/
def am_may (M : am_M) (T : u_T) (j : Nat) : Prop := (T j).2.2.2 = false ∨ ((T j).2.2.2 = true ∧ M.1.name = "<init>" ∧ (T j).1 = M.1.cls)
theorem am_put {a ci j N idx : Nat} {Cn : String} {T : u_T} {ty : Nat → FieldType} {h1 : am_H} {v : am_V} {val : (Nat → Nat) → Value} (hc : am_CI ci Cn T N ty) (hj : j < N) (ht : hT h a = (0, ci)) (hm : am_may M T j) (hlink : Cond.fieldLink M.1.cls idx Cn (T j).2.1 (T j).2.2.1 ∈ am_good) (hd : decode M.2.1 pc = .ok (.putfield idx, 3))
    (he1 : hC h1 = hC h ∧ hS h1 = hS h ∧ hZ h1 = hZ h) (hval : ∀ (ad q : Nat → Nat) (x : Value), am_sv ad q v x → x = val ad) (hn : ∀ ad, narrow (ty j) (val ad) = val ad) (hf : ∀ ad, fits (ty j) (val ad) = true)
    (hE : ∀ (ad : Nat → Nat) (yc : Nat → ClassId), am_hk h → am_vk h v → (∀ i, i ≠ a → am_e ad yc h1 i = am_e ad yc h i) ∧ am_e ad yc h1 a = .inr (ci, ((List.range (am_N ci)).map fun j => if am_ir ci j = true then va_rf ((rP h a j).map ad) else Value.int (Int32.ofInt (rI h a j))).set j (val ad)) ∧ am_hk h1)
    (k : am_P l sc d M (pc + 3) ls st h1 r) : am_P l sc d M pc ls (v :: Vr (some a) :: st) h r := by
  refine am_wrt k he1 (fun {p e R s m args below meth c H locs cells slots Q G yc q n0 ad lsA stA} C hw hV hl hlk hsk hs _ _ kk => ?_) (fun hs => am_lk_t (am_lk_t hs))
  cases stA with
  | nil => exact hs.elim
  | cons x m1 =>
    obtain ⟨hx, hs1⟩ := hs
    obtain ⟨m2, rfl, hs2⟩ := am_sl_r hs1
    have hx := hval ad q x hx
    subst hx
    have ha : a < hZ h := am_lk_h (am_lk_t hsk)
    have hg := am_w_get (ad := ad) (ys := yc) ha
    rw [am_e_o ht] at hg
    obtain ⟨E1, E2, E3⟩ := hE ad yc hw.2.2 (am_lk_h hsk)
    have hset := am_w_set (ad := ad) (ys := yc) (h := h) (h1 := h1) ha he1.2.2 E1
    rw [E2] at hset
    have hlen : j < ((List.range (am_N ci)).map fun j => if am_ir ci j = true then va_rf ((rP h a j).map ad) else Value.int (Int32.ofInt (rI h a j))).length := by
      rw [List.length_map, List.length_range, hc.2.2.1]; exact hj
    have hsame : ∀ x, s.fieldFound? (T j).1 (T j).2.1 (T j).2.2.1 = some x → s.fieldFound? Cn (T j).2.1 (T j).2.2.1 = some x := fun x hx => by rw [hc.2.2.2.2.2.1 j hj] at hx; exact hx
    rcases hm with hm | ⟨hm, hm1, hm2⟩
    · exact va_put C.1 C.2.1 C.2.2.2.2.1 hc.2.1 ty hc.2.2.2.1 hc.2.2.2.2.1 C.2.2.2.1 C.ev.1 hw.1 hw.2.1 hV a hg hc.1 j hj (C.2.2.2.2.1 _ hlink) hsame hm (hc.2.2.2.1 j hj) (hn ad) (hf ad) hlen hd fun H1 locs1 hP1 hD1 hV1 => kk H1 locs1 _ ⟨hset ▸ hP1, hset ▸ hD1, E3⟩ hV1 hs2
    · exact va_putF C.1 C.2.1 C.2.2.2.2.1 hc.2.1 ty hc.2.2.2.1 hc.2.2.2.2.1 C.2.2.2.1 C.ev.1 hw.1 hw.2.1 hV a hg hc.1 j hj (C.2.2.2.2.1 _ hlink) hsame hm (C.2.2.2.2.2.2.2.1.trans hm1) hm2 (hc.2.2.2.1 j hj) (hn ad) (hf ad) hlen hd fun H1 locs1 hP1 hD1 hV1 => kk H1 locs1 _ ⟨hset ▸ hP1, hset ▸ hD1, E3⟩ hV1 hs2
theorem am_s_putI {a ci j N idx : Nat} {v : Int} {Cn : String} {T : u_T} {ty : Nat → FieldType} (hc : am_CI ci Cn T N ty) (hj : j < N) (hir : am_ir ci j = false) (hty : ty j = .int ∨ (ty j = .boolean ∧ (v = 0 ∨ v = 1))) (ht : hT h a = (0, ci)) (hm : am_may M T j) (hlink : Cond.fieldLink M.1.cls idx Cn (T j).2.1 (T j).2.2.1 ∈ am_good) (hd : decode M.2.1 pc = .ok (.putfield idx, 3)) (k : am_P l sc d M (pc + 3) ls st (wI h a j v) r) : am_P l sc d M pc ls (Vi v :: Vr (some a) :: st) h r := by
  refine am_put (val := fun _ => .int (Int32.ofInt v)) hc hj ht hm hlink hd (wI_h h a j v) (fun ad q x hx => hx) (fun ad => ?_) (fun ad => ?_) (fun ad yc hh hv => ⟨fun i hi => am_e_wI hi hh, ?_, am_hk_wI hh hv⟩) k
  · rcases hty with e | ⟨e, rfl | rfl⟩ <;> rw [e] <;> rfl
  · rcases hty with e | ⟨e, rfl | rfl⟩ <;> rw [e] <;> rfl
  · rw [am_e_o (h := wI h a j v) ht, am_set_map]
    congr 2
    apply List.map_congr_left
    intro i _
    show (if am_ir ci i = true then va_rf ((rP h a i).map ad) else Value.int (Int32.ofInt (rI (wI h a j v) a i))) = _
    rw [rI_wI]
    by_cases hi : i = j
    · subst hi; simp [hir]
    · simp [hi]
theorem am_s_putP {a ci j N idx : Nat} {v : Option Nat} {Cn : String} {T : u_T} {ty : Nat → FieldType} (hc : am_CI ci Cn T N ty) (hj : j < N) (hir : am_ir ci j = true) (ht : hT h a = (0, ci)) (hm : am_may M T j) (hlink : Cond.fieldLink M.1.cls idx Cn (T j).2.1 (T j).2.2.1 ∈ am_good) (hd : decode M.2.1 pc = .ok (.putfield idx, 3)) (k : am_P l sc d M (pc + 3) ls st (wP h a j v) r) : am_P l sc d M pc ls (Vr v :: Vr (some a) :: st) h r := by
  have hnf : ∀ r : Option Nat, narrow (ty j) (va_rf r) = va_rf r ∧ fits (ty j) (va_rf r) = true := by
    rcases hc.2.2.2.2.2.2.1 j hj with h1 | h1
    · exact h1.2.1
    · rw [hir] at h1; exact absurd h1.1 (by decide)
  refine am_put (val := fun ad => va_rf (v.map ad)) hc hj ht hm hlink hd (wP_h h a j v) (fun ad q x hx => hx) (fun ad => (hnf _).1) (fun ad => (hnf _).2) (fun ad yc hh hv => ⟨fun i hi => am_e_wP hi hh, ?_, am_hk_wP hh (fun b hb => by subst hb; exact hv)⟩) k
  · rw [am_e_o (h := wP h a j v) ht, am_set_map]
    congr 2
    apply List.map_congr_left
    intro i _
    show (if am_ir ci i = true then va_rf ((rP (wP h a j v) a i).map ad) else Value.int (Int32.ofInt (rI h a i))) = _
    rw [rP_wP]
    by_cases hi : i = j
    · subst hi; simp [hir]
    · simp [hi]
end
