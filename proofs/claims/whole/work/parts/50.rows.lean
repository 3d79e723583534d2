/-! STEPS: rows -/
theorem am_Cx.ev {p : Program} {l : Launch} {s : State} {m : MethodId} {args : Array Value} {meth : Method} {c : Code} {M : am_M} {G : va_G} {yc : Nat → ClassId} {q : Nat → Nat} {n0 : Nat} {sc : Nat × (Nat → Int)} (C : am_Cx p l s m args meth c M G yc q n0 sc) : am_Ev G yc q n0 sc s := C.2.2.2.2.2.2.2.2.2.2
theorem am_e_i {ad : Nat → Nat} {yc : Nat → ClassId} {h : am_H} {a t : Nat} (ht : (hT h a).1 = t) (h1 : 1 ≤ t) (h3 : t ≤ 3) : am_e ad yc h a = .inl (yc t, (hT h a).2, .inl fun j => Int32.ofInt (rI h a j)) := by
  unfold am_e
  rw [if_neg (by omega), if_pos (by omega), ht]
theorem am_e_l {ad : Nat → Nat} {yc : Nat → ClassId} {h : am_H} {a : Nat} (ht : (hT h a).1 = 4) : am_e ad yc h a = .inl (yc 4, (hT h a).2, .inr (.inl fun j => Int64.ofInt (rI h a j))) := by
  unfold am_e
  rw [if_neg (by omega), if_neg (by omega), if_pos ht, ht]
theorem am_e_p {ad : Nat → Nat} {yc : Nat → ClassId} {h : am_H} {a t : Nat} (ht : (hT h a).1 = t) (h5 : 5 ≤ t) : am_e ad yc h a = .inl (yc t, (hT h a).2, .inr (.inr (.inr (.inr fun j => (rP h a j).map ad)))) := by
  unfold am_e
  rw [if_neg (by omega), if_neg (by omega), if_neg (by omega), ht]
theorem am_e_o {ad : Nat → Nat} {yc : Nat → ClassId} {h : am_H} {a ci : Nat} (ht : hT h a = (0, ci)) : am_e ad yc h a = .inr (ci, (List.range (am_N ci)).map fun j => if am_ir ci j = true then va_rf ((rP h a j).map ad) else .int (Int32.ofInt (rI h a j))) := by
  unfold am_e
  rw [if_pos (by rw [ht]), ht]
theorem wI_h (h : am_H) (a i : Nat) (v : Int) : hC (wI h a i v) = hC h ∧ hS (wI h a i v) = hS h ∧ hZ (wI h a i v) = hZ h := ⟨rfl, rfl, rfl⟩
theorem wP_h (h : am_H) (a i : Nat) (v : Option Nat) : hC (wP h a i v) = hC h ∧ hS (wP h a i v) = hS h ∧ hZ (wP h a i v) = hZ h := ⟨rfl, rfl, rfl⟩
theorem rI_wI (h : am_H) (a i b j : Nat) (v : Int) : rI (wI h a i v) b j = if b = a ∧ j = i then v else rI h b j := rfl
theorem rP_wP (h : am_H) (a i b j : Nat) (v : Option Nat) : rP (wP h a i v) b j = if b = a ∧ j = i then v else rP h b j := rfl
theorem am_hk_wI {h : am_H} {a i : Nat} {v : Int} (hh : am_hk h) (hv : am_n32 v) : am_hk (wI h a i v) := by
  refine ⟨fun b j => ?_, hh.2⟩
  rw [rI_wI]
  split
  · exact hv
  · exact hh.1 b j
theorem am_hk_wP {h : am_H} {a i : Nat} {v : Option Nat} (hh : am_hk h) (hv : ∀ b, v = some b → b < hZ h) : am_hk (wP h a i v) := by
  refine ⟨hh.1, fun b j x hx => ?_, hh.2.2⟩
  rw [rP_wP] at hx
  split at hx
  · exact hv x hx
  · exact hh.2.1 b j x hx
theorem am_e_wI {ad : Nat → Nat} {yc : Nat → ClassId} {h : am_H} {a i j : Nat} {v : Int} (hj : j ≠ a) (hh : am_hk h) : am_e ad yc (wI h a i v) j = am_e ad yc h j :=
  am_e_same hh (fun _ _ => rfl) rfl (fun k => by rw [rI_wI, if_neg (fun e => hj e.1)]) (fun _ => rfl)
theorem am_e_wP {ad : Nat → Nat} {yc : Nat → ClassId} {h : am_H} {a i j : Nat} {v : Option Nat} (hj : j ≠ a) (hh : am_hk h) : am_e ad yc (wP h a i v) j = am_e ad yc h j :=
  am_e_same hh (fun _ _ => rfl) rfl (fun _ => rfl) (fun k => by rw [rP_wP, if_neg (fun e => hj e.1)])
section
variable {l : Launch} {sc : Nat × (Nat → Int)} {d : Nat} {M : am_M} {r : (am_V ⊕ Nat) × am_H} {pc : Nat} {ls st : List am_V} {h : am_H}
theorem am_s_iald {a : Nat} {i : Int} (ht : (hT h a).1 = 1 ∧ 0 ≤ i ∧ i < (hT h a).2) (hd : decode M.2.1 pc = .ok (.iaload, 1)) (k : am_P l sc d M (pc + 1) ls (Vi (rI h a i.toNat) :: st) h r) : am_P l sc d M pc ls (Vi i :: Vr (some a) :: st) h r := by
  refine am_stk k (fun {p e R s m args below meth c H locs cells slots Q G yc q n0 ad lsA stA} C hw hV hl hlk hsk hs kk => ?_) (fun hh hl hs => am_lk_c (hh.1 _ _) (am_lk_t (am_lk_t hs)))
  obtain ⟨m1, rfl, hs1⟩ := am_sl_i hs
  obtain ⟨m2, rfl, hs2⟩ := am_sl_r hs1
  have hi : am_n32 i := am_lk_h hsk
  have hg := am_w_get (ad := ad) (ys := yc) (h := h) (k := a) (am_lk_h (am_lk_t hsk))
  rw [am_e_i ht.1 (by omega) (by omega)] at hg
  exact va_iald C.1 C.2.1 C.ev.1 hw.1 a 0 hg rfl (am_in hi ht.2.1 ht.2.2) hd (kk _ ⟨by rw [am_clamp hi]; rfl, hs2⟩)
theorem am_s_bald {a : Nat} {i : Int} (ht : ((hT h a).1 = 2 ∨ (hT h a).1 = 3) ∧ 0 ≤ i ∧ i < (hT h a).2) (hd : decode M.2.1 pc = .ok (.baload, 1)) (k : am_P l sc d M (pc + 1) ls (Vi (rI h a i.toNat) :: st) h r) : am_P l sc d M pc ls (Vi i :: Vr (some a) :: st) h r := by
  refine am_stk k (fun {p e R s m args below meth c H locs cells slots Q G yc q n0 ad lsA stA} C hw hV hl hlk hsk hs kk => ?_) (fun hh hl hs => am_lk_c (hh.1 _ _) (am_lk_t (am_lk_t hs)))
  obtain ⟨m1, rfl, hs1⟩ := am_sl_i hs
  obtain ⟨m2, rfl, hs2⟩ := am_sl_r hs1
  have hi : am_n32 i := am_lk_h hsk
  have hg := am_w_get (ad := ad) (ys := yc) (h := h) (k := a) (am_lk_h (am_lk_t hsk))
  rcases ht.1 with h2 | h2
  · rw [am_e_i h2 (by omega) (by omega)] at hg
    exact va_zald C.1 C.2.1 C.ev.1 hw.1 a 1 hg rfl (am_in hi ht.2.1 ht.2.2) hd (kk _ ⟨by rw [am_clamp hi]; rfl, hs2⟩)
  · rw [am_e_i h2 (by omega) (by omega)] at hg
    exact va_bald C.1 C.2.1 C.ev.1 hw.1 a 2 hg rfl (am_in hi ht.2.1 ht.2.2) hd (kk _ ⟨by rw [am_clamp hi]; rfl, hs2⟩)
theorem am_s_lald {a : Nat} {i : Int} (ht : (hT h a).1 = 4 ∧ 0 ≤ i ∧ i < (hT h a).2) (hd : decode M.2.1 pc = .ok (.laload, 1)) (k : am_P l sc d M (pc + 1) ls (Vl (rI h a i.toNat) :: st) h r) : am_P l sc d M pc ls (Vi i :: Vr (some a) :: st) h r := by
  refine am_stk k (fun {p e R s m args below meth c H locs cells slots Q G yc q n0 ad lsA stA} C hw hV hl hlk hsk hs kk => ?_) (fun hh hl hs => am_lk_c (v := Vl _) (show am_n32 _ from hh.1 _ _) (am_lk_t (am_lk_t hs)))
  obtain ⟨m1, rfl, hs1⟩ := am_sl_i hs
  obtain ⟨m2, rfl, hs2⟩ := am_sl_r hs1
  have hi : am_n32 i := am_lk_h hsk
  have hg := am_w_get (ad := ad) (ys := yc) (h := h) (k := a) (am_lk_h (am_lk_t hsk))
  rw [am_e_l ht.1] at hg
  exact va_lald C.1 C.2.1 C.ev.1 hw.1 a 3 hg rfl (am_in hi ht.2.1 ht.2.2) hd (kk _ ⟨by rw [am_clamp hi]; rfl, hs2⟩)
theorem am_s_alen {a : Nat} (ht : 1 ≤ (hT h a).1 ∧ (hT h a).1 ≤ 6) (hd : decode M.2.1 pc = .ok (.arraylength, 1)) (k : am_P l sc d M (pc + 1) ls (Vi (hT h a).2 :: st) h r) : am_P l sc d M pc ls (Vr (some a) :: st) h r := by
  refine am_stk k (fun {p e R s m args below meth c H locs cells slots Q G yc q n0 ad lsA stA} C hw hV hl hlk hsk hs kk => ?_) (fun hh hl hs => am_lk_c (show am_n32 _ by have := hh.2.2 a; unfold am_n32; omega) (am_lk_t hs))
  obtain ⟨m1, rfl, hs1⟩ := am_sl_r hs
  have hg := am_w_get (ad := ad) (ys := yc) (h := h) (k := a) (am_lk_h hsk)
  have e : Int32.ofNat (hT h a).2 = Int32.ofInt ((hT h a).2 : Int) := Int32.ofInt_eq_ofNat.symm
  by_cases c3 : (hT h a).1 ≤ 3
  · rw [am_e_i (t := (hT h a).1) rfl ht.1 c3] at hg
    have hty : ∃ ty, (am_ys yc)[(hT h a).1 - 1]? = some (yc (hT h a).1, ty) := ⟨[FieldType.int, .boolean, .byte].getD ((hT h a).1 - 1) .int, by
      generalize (hT h a).1 = t at ht c3
      have : t = 1 ∨ t = 2 ∨ t = 3 := by omega
      rcases this with rfl | rfl | rfl <;> rfl⟩
    obtain ⟨ty, hty⟩ := hty
    exact va_alen C.1 C.2.1 C.ev.1 hw.1 a _ hg hty e hd (kk _ ⟨rfl, hs1⟩)
  · by_cases c4 : (hT h a).1 = 4
    · rw [am_e_l c4] at hg
      exact va_alen C.1 C.2.1 C.ev.1 hw.1 a 3 hg rfl e hd (kk _ ⟨rfl, hs1⟩)
    · rw [am_e_p (t := (hT h a).1) rfl (by omega)] at hg
      have hty : ∃ ty, (am_ys yc)[(hT h a).1 - 1]? = some (yc (hT h a).1, ty) := ⟨[FieldType.object "OldFences$County", .array .int].getD ((hT h a).1 - 5) .int, by
        generalize (hT h a).1 = t at ht c3 c4
        have : t = 5 ∨ t = 6 := by omega
        rcases this with rfl | rfl <;> rfl⟩
      obtain ⟨ty, hty⟩ := hty
      exact va_alen C.1 C.2.1 C.ev.1 hw.1 a _ hg hty e hd (kk _ ⟨rfl, hs1⟩)
/-- writes -/
theorem am_upd_eq {f : Nat → Int} {i : Nat} {v : Int} : upd (fun j => Int32.ofInt (f j)) i (Int32.ofInt v) = fun j => Int32.ofInt (if j = i then v else f j) := by
  funext j
  unfold upd
  split <;> rfl
theorem am_s_iast {a : Nat} {i v : Int} (ht : (hT h a).1 = 1 ∧ 0 ≤ i ∧ i < (hT h a).2) (hd : decode M.2.1 pc = .ok (.iastore, 1)) (k : am_P l sc d M (pc + 1) ls st (wI h a i.toNat v) r) : am_P l sc d M pc ls (Vi v :: Vi i :: Vr (some a) :: st) h r := by
  refine am_wrt k (wI_h h a _ v) (fun {p e R s m args below meth c H locs cells slots Q G yc q n0 ad lsA stA} C hw hV hl hlk hsk hs _ _ kk => ?_) (fun hs => am_lk_t (am_lk_t (am_lk_t hs)))
  obtain ⟨m1, rfl, hs1⟩ := am_sl_i hs
  obtain ⟨m2, rfl, hs2⟩ := am_sl_i hs1
  obtain ⟨m3, rfl, hs3⟩ := am_sl_r hs2
  have hi : am_n32 i := am_lk_h (am_lk_t hsk)
  have hv : am_n32 v := am_lk_h hsk
  have ha : a < hZ h := am_lk_h (am_lk_t (am_lk_t hsk))
  have hg := am_w_get (ad := ad) (ys := yc) ha
  rw [am_e_i ht.1 (by omega) (by omega)] at hg
  have hset := am_w_set (ad := ad) (ys := yc) (h := h) (h1 := wI h a i.toNat v) ha rfl (fun j hj => am_e_wI hj hw.2.2)
  rw [am_e_i (h := wI h a i.toNat v) ht.1 (by omega) (by omega)] at hset
  refine va_iast C.1 C.2.1 C.ev.1 hw.1 hw.2.1 hV a 0 hg rfl (am_in hi ht.2.1 ht.2.2) hd fun H1 locs1 hP1 hD1 hV1 => ?_
  rw [am_clamp hi, am_upd_eq] at hP1 hD1
  have e : (fun j => Int32.ofInt (if j = i.toNat then v else rI h a j)) = (fun j => Int32.ofInt (rI (wI h a i.toNat v) a j)) := by
    funext j
    rw [rI_wI]
    by_cases hj : j = i.toNat <;> simp [hj]
  rw [e] at hP1 hD1
  exact kk H1 locs1 _ ⟨hset ▸ hP1, hset ▸ hD1, am_hk_wI hw.2.2 hv⟩ hV1 hs3
theorem am_s_bast {a : Nat} {i v : Int} (ht : (((hT h a).1 = 2 ∧ (v = 0 ∨ v = 1)) ∨ ((hT h a).1 = 3 ∧ -128 ≤ v ∧ v ≤ 127)) ∧ 0 ≤ i ∧ i < (hT h a).2) (hd : decode M.2.1 pc = .ok (.bastore, 1)) (k : am_P l sc d M (pc + 1) ls st (wI h a i.toNat v) r) : am_P l sc d M pc ls (Vi v :: Vi i :: Vr (some a) :: st) h r := by
  refine am_wrt k (wI_h h a _ v) (fun {p e R s m args below meth c H locs cells slots Q G yc q n0 ad lsA stA} C hw hV hl hlk hsk hs _ _ kk => ?_) (fun hs => am_lk_t (am_lk_t (am_lk_t hs)))
  obtain ⟨m1, rfl, hs1⟩ := am_sl_i hs
  obtain ⟨m2, rfl, hs2⟩ := am_sl_i hs1
  obtain ⟨m3, rfl, hs3⟩ := am_sl_r hs2
  have hi : am_n32 i := am_lk_h (am_lk_t hsk)
  have hv : am_n32 v := am_lk_h hsk
  have ha : a < hZ h := am_lk_h (am_lk_t (am_lk_t hsk))
  have hg := am_w_get (ad := ad) (ys := yc) ha
  have hset := am_w_set (ad := ad) (ys := yc) (h := h) (h1 := wI h a i.toNat v) ha rfl (fun j hj => am_e_wI hj hw.2.2)
  have e : (fun j => Int32.ofInt (if j = i.toNat then v else rI h a j)) = (fun j => Int32.ofInt (rI (wI h a i.toNat v) a j)) := by
    funext j
    rw [rI_wI]
    by_cases hj : j = i.toNat <;> simp [hj]
  rcases ht.1 with ⟨t2, hb⟩ | ⟨t3, hb1, hb2⟩
  · rw [am_e_i t2 (by omega) (by omega)] at hg
    rw [am_e_i (h := wI h a i.toNat v) t2 (by omega) (by omega)] at hset
    refine va_zast C.1 C.2.1 C.ev.1 hw.1 hw.2.1 hV a 1 hg rfl (am_in hi ht.2.1 ht.2.2) hd fun H1 locs1 hP1 hD1 hV1 => ?_
    have en : vp_nar .boolean (Int32.ofInt v) = Int32.ofInt v := by rcases hb with rfl | rfl <;> rfl
    rw [en, am_clamp hi, am_upd_eq, e] at hP1 hD1
    exact kk H1 locs1 _ ⟨hset ▸ hP1, hset ▸ hD1, am_hk_wI hw.2.2 hv⟩ hV1 hs3
  · rw [am_e_i t3 (by omega) (by omega)] at hg
    rw [am_e_i (h := wI h a i.toNat v) t3 (by omega) (by omega)] at hset
    refine va_bast C.1 C.2.1 C.ev.1 hw.1 hw.2.1 hV a 2 hg rfl (am_in hi ht.2.1 ht.2.2) hd fun H1 locs1 hP1 hD1 hV1 => ?_
    have en : vp_nar .byte (Int32.ofInt v) = Int32.ofInt v := by
      show (Int32.ofInt v).toInt8.toInt32 = _
      exact lg_i2b_small (by rw [am_toInt hv]; exact hb1) (by rw [am_toInt hv]; omega)
    rw [en, am_clamp hi, am_upd_eq, e] at hP1 hD1
    exact kk H1 locs1 _ ⟨hset ▸ hP1, hset ▸ hD1, am_hk_wI hw.2.2 hv⟩ hV1 hs3
theorem am_s_last {a : Nat} {i v : Int} (ht : (hT h a).1 = 4 ∧ 0 ≤ i ∧ i < (hT h a).2) (hd : decode M.2.1 pc = .ok (.lastore, 1)) (k : am_P l sc d M (pc + 1) ls st (wI h a i.toNat v) r) : am_P l sc d M pc ls (Vl v :: Vi i :: Vr (some a) :: st) h r := by
  refine am_wrt k (wI_h h a _ v) (fun {p e R s m args below meth c H locs cells slots Q G yc q n0 ad lsA stA} C hw hV hl hlk hsk hs _ _ kk => ?_) (fun hs => am_lk_t (am_lk_t (am_lk_t hs)))
  obtain ⟨m1, rfl, hs1⟩ := am_sl_l hs
  obtain ⟨m2, rfl, hs2⟩ := am_sl_i hs1
  obtain ⟨m3, rfl, hs3⟩ := am_sl_r hs2
  have hi : am_n32 i := am_lk_h (am_lk_t hsk)
  have hv : am_n32 v := am_lk_h hsk
  have ha : a < hZ h := am_lk_h (am_lk_t (am_lk_t hsk))
  have hg := am_w_get (ad := ad) (ys := yc) ha
  rw [am_e_l ht.1] at hg
  have hset := am_w_set (ad := ad) (ys := yc) (h := h) (h1 := wI h a i.toNat v) ha rfl (fun j hj => am_e_wI hj hw.2.2)
  rw [am_e_l (h := wI h a i.toNat v) ht.1] at hset
  refine va_last C.1 C.2.1 C.ev.1 hw.1 hw.2.1 hV a 3 hg rfl (am_in hi ht.2.1 ht.2.2) hd fun H1 locs1 hP1 hD1 hV1 => ?_
  have e : vp_updL (fun j => Int64.ofInt (rI h a j)) i.toNat (Int64.ofInt v) = (fun j => Int64.ofInt (rI (wI h a i.toNat v) a j)) := by
    funext j
    unfold vp_updL
    rw [rI_wI]
    by_cases hj : j = i.toNat <;> simp [hj]
  rw [am_clamp hi, e] at hP1 hD1
  exact kk H1 locs1 _ ⟨hset ▸ hP1, hset ▸ hD1, am_hk_wI hw.2.2 hv⟩ hV1 hs3
end
