/-! STEPS: objects and rows made, copied -/
theorem rI_new (h : am_H) (t n k b j : Nat) : rI (am_new h t n k) b j = if b = hZ h then 0 else rI h b j := by
  show (am_u1 (α := Nat → Int) _ _ _ b) j = _
  unfold am_u1
  by_cases e : b = h.2.2.1
  · rw [if_pos e, if_pos (show b = hZ h from e)]
  · rw [if_neg e, if_neg (show ¬ b = hZ h from e)]; rfl
theorem rP_new (h : am_H) (t n k b j : Nat) : rP (am_new h t n k) b j = if b = hZ h then none else rP h b j := by
  show (am_u1 (α := Nat → Option Nat) _ _ _ b) j = _
  unfold am_u1
  by_cases e : b = h.2.2.1
  · rw [if_pos e, if_pos (show b = hZ h from e)]
  · rw [if_neg e, if_neg (show ¬ b = hZ h from e)]; rfl
theorem hT_new (h : am_H) (t n k b : Nat) : hT (am_new h t n k) b = if b = hZ h then (t, n) else hT h b := by
  show am_u1 _ _ _ b = _
  unfold am_u1
  by_cases e : b = h.2.2.1
  · rw [if_pos e, if_pos (show b = hZ h from e)]
  · rw [if_neg e, if_neg (show ¬ b = hZ h from e)]; rfl
theorem am_n32_0 : am_n32 0 := by unfold am_n32; omega
theorem am_hk_new {h : am_H} {t n k : Nat} (hh : am_hk h) (hn : n ≤ 100000) : am_hk (am_new h t n k) := by
  refine ⟨fun b j => ?_, fun b j x hx => ?_, fun b => ?_⟩
  · rw [rI_new]; split
    · exact am_n32_0
    · exact hh.1 b j
  · rw [rP_new] at hx
    split at hx
    · cases hx
    · exact Nat.lt_succ_of_lt (hh.2.1 b j x hx)
  · rw [hT_new]; split
    · exact hn
    · exact hh.2.2 b
theorem am_e_new {ad ad1 : Nat → Nat} {yc : Nat → ClassId} {h : am_H} {t n k j : Nat} (hj : j < hZ h) (hh : am_hk h) (ha : ∀ k, k < hZ h → ad1 k = ad k) : am_e ad1 yc (am_new h t n k) j = am_e ad yc h j :=
  am_e_same hh ha (by rw [hT_new, if_neg (by omega)]) (fun _ => by rw [rI_new, if_neg (by omega)]) (fun _ => by rw [rP_new, if_neg (by omega)])
theorem am_K_in {G : va_G} {yc : Nat → ClassId} {s : State} {cA : ClassId} {ty : FieldType} {t : Nat} (hK : va_K G am_cl (am_ys yc ++ [(cA, ty)]) s) (ht : (am_ys yc)[t]? = some (yc (t + 1), ty)) : cA = yc (t + 1) := by
  have h1 := (hK.2 6 (cA, ty) rfl).2
  have ht6 : t < 6 := (List.getElem?_eq_some_iff.mp ht).1
  have h2 := (hK.2 t (yc (t + 1), ty) (by rw [List.getElem?_append_left ht6]; exact ht)).2
  unfold va_RA at h1 h2
  cases ty with
  | object C =>
    obtain ⟨kA, comp, a1, a2, a3, a4⟩ := h1
    obtain ⟨kB, comq, b1, b2, b3, b4⟩ := h2
    exact Option.some.inj (a4.symm.trans b4)
  | _ => exact Option.some.inj (h1.symm.trans h2)
section
variable {l : Launch} {sc : Nat × (Nat → Int)} {d : Nat} {M : am_M} {r : (am_V ⊕ Nat) × am_H} {pc : Nat} {ls st : List am_V} {h : am_H}
theorem am_A_of {G : va_G} {yc : Nat → ClassId} {q : Nat → Nat} {n0 : Nat} {sc : Nat × (Nat → Int)} {s : State} (h : am_Ev G yc q n0 sc s) : ∀ x, s.heap.size ≤ x → am_A n0 x := fun x hx => Nat.le_trans h.2.2.2.2.2.2.2.2.2.2.2.2 hx
theorem am_s_new {ci N idx : Nat} {Cn : String} {T : u_T} {ty : Nat → FieldType} (hc : am_CI ci Cn T N ty) (hcl : Cond.classLink M.1.cls idx Cn ∈ am_good) (hin : Cond.instantiable Cn N ∈ am_good) (hini : Cond.initialized Cn ∈ am_good) (hd : decode M.2.1 pc = .ok (.new idx, 3)) (hci : ci ≤ 100000) (k : am_P l sc d M (pc + 3) ls (Vr (some (hZ h)) :: st) (am_new h 0 ci N) r) : am_P l sc d M pc ls st h r := by
  refine am_mak (nc := 1) (ns := N) k rfl rfl (Nat.le_succ _) (fun {p e R s m args below meth c H locs cells slots Q G yc q n0 ad lsA stA} C hw hV hl hlk hsk hs hR1 hR2 hcells hslots kk => ?_) (fun hs => am_lk_c (show hZ h < hZ h + 1 by omega) (am_lk_up (Nat.le_succ _) hs))
  refine va_new C.1 C.2.1 C.2.2.2.2.1 hc.2.1 ty hc.2.2.2.1 C.2.2.2.1 (C.2.2.2.2.1 _ hcl) (C.2.2.2.2.1 _ hin) (C.2.2.2.2.1 _ hini) C.ev.1 hw.1 hw.2.1 hV (am_A_of C.ev) hc.1 (fs := (List.range (am_N ci)).map fun j => if am_ir ci j = true then Value.null else .int 0) (fun j hj => ?_) hcells hslots hd fun x H1 hP1 hD1 hV1 => ?_
  · unfold vp_V
    rw [List.getD_eq_getElem?_getD, List.getElem?_map, List.getElem?_range (by rw [hc.2.2.1]; exact hj)]
    rcases hc.2.2.2.2.2.2.1 j hj with ⟨h1, -, h3⟩ | ⟨h1, h3⟩
    · rw [h3]; simp [h1]
    · rcases h3 with h3 | h3 <;> rw [h3] <;> simp [h1] <;> rfl
  · have ha1 : ∀ k, k < hZ h → (fun k => if k = hZ h then x else ad k) k = ad k := fun k hk => if_neg (by omega)
    have hp := am_w_push (ad := ad) (ad1 := fun k => if k = hZ h then x else ad k) (ys := yc) (h := h) (h1 := am_new h 0 ci N) rfl ha1 (fun k hk => am_e_new hk hw.2.2 ha1)
    have he : am_e (fun k => if k = hZ h then x else ad k) yc (am_new h 0 ci N) (hZ h) = .inr (ci, (List.range (am_N ci)).map fun j => if am_ir ci j = true then Value.null else .int 0) := by
      rw [am_e_o (ci := ci) (by rw [hT_new, if_pos rfl])]
      congr 2
      apply List.map_congr_left
      intro j _
      rw [rI_new, if_pos rfl, rP_new, if_pos rfl]
      rfl
    rw [he] at hp
    simp only [if_true] at hp
    refine kk _ H1 locs _ ha1 ⟨hp ▸ hP1, hp ▸ hD1, am_hk_new hw.2.2 hci⟩ hV1 ⟨?_, am_sl_up ha1 hsk hs⟩
    show Value.ref x = Value.ref (if hZ h = hZ h then x else ad (hZ h))
    rw [if_pos rfl]
theorem am_s_newa {t : Nat} {n : Int} {aty : ArrayType} (h0 : 0 ≤ n ∧ n ≤ 100000) (ht : (t = 1 ∧ aty = .int) ∨ (t = 2 ∧ aty = .boolean) ∨ (t = 3 ∧ aty = .byte) ∨ (t = 4 ∧ aty = .long)) (harr : Cond.arrayClass (newarray.typeOf aty) ∈ am_good) (hd : decode M.2.1 pc = .ok (.newarray aty, 2)) (k : am_P l sc d M (pc + 2) ls (Vr (some (hZ h)) :: st) (am_new h t n.toNat n.toNat) r) : am_P l sc d M pc ls (Vi n :: st) h r := by
  refine am_mak (nc := 1) (ns := n.toNat) k rfl rfl (Nat.le_succ _) (fun {p e R s m args below meth c H locs cells slots Q G yc q n0 ad lsA stA} C hw hV hl hlk hsk hs hR1 hR2 hcells hslots kk => ?_) (fun hs => am_lk_c (show hZ h < hZ h + 1 by omega) (am_lk_up (Nat.le_succ _) (am_lk_t hs)))
  obtain ⟨m1, rfl, hs1⟩ := am_sl_i hs
  have hn : am_n32 n := am_lk_h hsk
  have hneg : ¬ Int32.ofInt n < 0 := fun e => by have := (am_lt hn am_n32_0).mp e; omega
  have fin : ∀ (x : Nat) (cA : ClassId) (H1 : Heap) (a0 : vp_A), am_e (fun k => if k = hZ h then x else ad k) yc (am_new h t n.toNat n.toNat) (hZ h) = .inl (cA, a0) → va_P G am_cl (am_w ad yc h ++ [(x, .inl (cA, a0))]) H1 → va_D (am_A n0) (am_w ad yc h ++ [(x, .inl (cA, a0))]) → va_S (am_A n0) s.heap H1 locs → W p l e R s m args below meth c H1 locs (cells + 1) (slots + n.toNat) Q (F0 m (pc + 2) lsA (.ref x :: m1)) := by
    intro x cA H1 a0 he hP1 hD1 hV1
    have ha1 : ∀ k, k < hZ h → (fun k => if k = hZ h then x else ad k) k = ad k := fun k hk => if_neg (by omega)
    have hp := am_w_push (ad := ad) (ad1 := fun k => if k = hZ h then x else ad k) (ys := yc) (h := h) (h1 := am_new h t n.toNat n.toNat) rfl ha1 (fun k hk => am_e_new hk hw.2.2 ha1)
    rw [he] at hp
    simp only [if_true] at hp
    refine kk _ H1 locs _ ha1 ⟨hp ▸ hP1, hp ▸ hD1, am_hk_new hw.2.2 (by omega)⟩ hV1 ⟨?_, am_sl_up ha1 (am_lk_t hsk) hs1⟩
    show Value.ref x = Value.ref (if hZ h = hZ h then x else ad (hZ h))
    rw [if_pos rfl]
  have hTn : hT (am_new h t n.toNat n.toNat) (hZ h) = (t, n.toNat) := by rw [hT_new, if_pos rfl]
  have hIn : (fun j => Int32.ofInt (rI (am_new h t n.toNat n.toNat) (hZ h) j)) = fun _ => (0 : Int32) := by
    funext j; rw [rI_new, if_pos rfl]; rfl
  have hIl : (fun j => Int64.ofInt (rI (am_new h t n.toNat n.toNat) (hZ h) j)) = fun _ => (0 : Int64) := by
    funext j; rw [rI_new, if_pos rfl]; rfl
  rcases ht with ⟨rfl, rfl⟩ | ⟨rfl, rfl⟩ | ⟨rfl, rfl⟩ | ⟨rfl, rfl⟩
  · refine va_newa C.1 C.2.1 (atype := .int) (ty := .int) (a0 := (n.toNat, .inl fun _ => 0)) (C.2.2.2.2.1 _ harr) rfl C.ev.1 hw.1 hw.2.1 hV (am_A_of C.ev) (fun cA => rfl) hneg (am_clamp hn) (by show n.toNat * 4 ≤ _; omega) hcells hslots hd fun x cA H1 hK1 hP1 hD1 hV1 => ?_
    have hcA := am_K_in (t := 0) hK1 rfl
    subst hcA
    exact fin x _ H1 _ (by rw [am_e_i (t := 1) (by rw [hTn]) (by omega) (by omega), hTn, hIn]) hP1 hD1 hV1
  · refine va_newa C.1 C.2.1 (atype := .boolean) (ty := .boolean) (a0 := (n.toNat, .inl fun _ => 0)) (C.2.2.2.2.1 _ harr) rfl C.ev.1 hw.1 hw.2.1 hV (am_A_of C.ev) (fun cA => rfl) hneg (am_clamp hn) (by show n.toNat * 1 ≤ _; omega) hcells hslots hd fun x cA H1 hK1 hP1 hD1 hV1 => ?_
    have hcA := am_K_in (t := 1) hK1 rfl
    subst hcA
    exact fin x _ H1 _ (by rw [am_e_i (t := 2) (by rw [hTn]) (by omega) (by omega), hTn, hIn]) hP1 hD1 hV1
  · refine va_newa C.1 C.2.1 (atype := .byte) (ty := .byte) (a0 := (n.toNat, .inl fun _ => 0)) (C.2.2.2.2.1 _ harr) rfl C.ev.1 hw.1 hw.2.1 hV (am_A_of C.ev) (fun cA => rfl) hneg (am_clamp hn) (by show n.toNat * 1 ≤ _; omega) hcells hslots hd fun x cA H1 hK1 hP1 hD1 hV1 => ?_
    have hcA := am_K_in (t := 2) hK1 rfl
    subst hcA
    exact fin x _ H1 _ (by rw [am_e_i (t := 3) (by rw [hTn]) (by omega) (by omega), hTn, hIn]) hP1 hD1 hV1
  · refine va_newa C.1 C.2.1 (atype := .long) (ty := .long) (a0 := (n.toNat, .inr (.inl fun _ => 0))) (C.2.2.2.2.1 _ harr) rfl C.ev.1 hw.1 hw.2.1 hV (am_A_of C.ev) (fun cA => rfl) hneg (am_clamp hn) (by show n.toNat * 8 ≤ _; omega) hcells hslots hd fun x cA H1 hK1 hP1 hD1 hV1 => ?_
    have hcA := am_K_in (t := 3) hK1 rfl
    subst hcA
    exact fin x _ H1 _ (by rw [am_e_l (by rw [hTn]), hTn, hIl]) hP1 hD1 hV1
theorem am_s_newq {n : Int} {idx : Nat} (h0 : 0 ≤ n ∧ n ≤ 100000) (hcl : Cond.classLink M.1.cls idx "OldFences$County" ∈ am_good) (hd : decode M.2.1 pc = .ok (.anewarray idx, 3)) (k : am_P l sc d M (pc + 3) ls (Vr (some (hZ h)) :: st) (am_new h 5 n.toNat n.toNat) r) : am_P l sc d M pc ls (Vi n :: st) h r := by
  refine am_mak (nc := 1) (ns := n.toNat) k rfl rfl (Nat.le_succ _) (fun {p e R s m args below meth c H locs cells slots Q G yc q n0 ad lsA stA} C hw hV hl hlk hsk hs hR1 hR2 hcells hslots kk => ?_) (fun hs => am_lk_c (show hZ h < hZ h + 1 by omega) (am_lk_up (Nat.le_succ _) (am_lk_t hs)))
  obtain ⟨m1, rfl, hs1⟩ := am_sl_i hs
  have hn : am_n32 n := am_lk_h hsk
  have hneg : ¬ Int32.ofInt n < 0 := fun e => by have := (am_lt hn am_n32_0).mp e; omega
  refine va_newq C.1 C.2.1 C.2.2.2.1 (C.2.2.2.2.1 _ hcl) C.ev.2.2.2.2.2.2.2.2.2.2.1 C.ev.1 hw.1 hw.2.1 hV (am_A_of C.ev) hneg (am_clamp hn) (by omega) hcells hslots hd fun x cA H1 hK1 hP1 hD1 hV1 => ?_
  have hcA := am_K_in (t := 4) hK1 rfl
  subst hcA
  have ha1 : ∀ k, k < hZ h → (fun k => if k = hZ h then x else ad k) k = ad k := fun k hk => if_neg (by omega)
  have hp := am_w_push (ad := ad) (ad1 := fun k => if k = hZ h then x else ad k) (ys := yc) (h := h) (h1 := am_new h 5 n.toNat n.toNat) rfl ha1 (fun k hk => am_e_new hk hw.2.2 ha1)
  have he : am_e (fun k => if k = hZ h then x else ad k) yc (am_new h 5 n.toNat n.toNat) (hZ h) = .inl (yc 5, n.toNat, .inr (.inr (.inr (.inr fun _ => none)))) := by
    rw [am_e_p (t := 5) (by rw [hT_new, if_pos rfl]) (by omega), hT_new, if_pos rfl]
    have e1 : (fun j => (rP (am_new h 5 n.toNat n.toNat) (hZ h) j).map (fun k => if k = hZ h then x else ad k)) = fun _ => none := by
      funext j; rw [rP_new, if_pos rfl]; rfl
    rw [e1]
  rw [he] at hp
  simp only [if_true] at hp
  refine kk _ H1 locs _ ha1 ⟨hp ▸ hP1, hp ▸ hD1, am_hk_new hw.2.2 (by omega)⟩ hV1 ⟨?_, am_sl_up ha1 (am_lk_t hsk) hs1⟩
  show Value.ref x = Value.ref (if hZ h = hZ h then x else ad (hZ h))
  rw [if_pos rfl]
/-- a row copied into another -/
theorem rI_cp (h : am_H) (a sp b dp n x j : Nat) : rI (cpI h a sp b dp n) x j = if x = b ∧ dp ≤ j ∧ j < dp + n then rI h a (sp + (j - dp)) else rI h x j := rfl
theorem am_hk_cp {h : am_H} {a sp b dp n : Nat} (hh : am_hk h) : am_hk (cpI h a sp b dp n) := by
  refine ⟨fun x j => ?_, hh.2⟩
  rw [rI_cp]; split
  · exact hh.1 _ _
  · exact hh.1 _ _
theorem am_s_copy {a b idx : Nat} {sp dp n : Int} (ht : (hT h a).1 = 1 ∧ (hT h b).1 = 1 ∧ 0 ≤ sp ∧ 0 ≤ dp ∧ 0 ≤ n ∧ sp + n ≤ (hT h a).2 ∧ dp + n ≤ (hT h b).2) (hlink : Cond.methodLink M.1.cls idx arraycopyName ∈ am_good) (h1 : Cond.native arraycopyName ∈ am_good) (h2 : Cond.static arraycopyName ∈ am_good) (h3 : Cond.initialized "java/lang/System" ∈ am_good) (hst : st = []) (hd : decode M.2.1 pc = .ok (.invokestatic idx, 3)) (k : am_P l sc d M (pc + 3) ls st (cpI h a sp.toNat b dp.toNat n.toNat) r) : am_P l sc d M pc ls (Vi n :: Vi dp :: Vr (some b) :: Vi sp :: Vr (some a) :: st) h r := by
  subst hst
  refine am_wrt (h1 := cpI h a sp.toNat b dp.toNat n.toNat) k ⟨rfl, rfl, rfl⟩ (fun {p e R s m args below meth c H locs cells slots Q G yc q n0 ad lsA stA} C hw hV hl hlk hsk hs hR1 hR2 kk => ?_) (fun hs => am_lk_t (am_lk_t (am_lk_t (am_lk_t (am_lk_t hs)))))
  obtain ⟨m1, rfl, hs1⟩ := am_sl_i hs
  obtain ⟨m2, rfl, hs2⟩ := am_sl_i hs1
  obtain ⟨m3, rfl, hs3⟩ := am_sl_r hs2
  obtain ⟨m4, rfl, hs4⟩ := am_sl_i hs3
  obtain ⟨m5, rfl, hs5⟩ := am_sl_r hs4
  have e5 := am_sl_n hs5
  subst e5
  have hn : am_n32 n := am_lk_h hsk
  have hdp : am_n32 dp := am_lk_h (am_lk_t hsk)
  have hb : b < hZ h := am_lk_h (am_lk_t (am_lk_t hsk))
  have hsp : am_n32 sp := am_lk_h (am_lk_t (am_lk_t (am_lk_t hsk)))
  have ha : a < hZ h := am_lk_h (am_lk_t (am_lk_t (am_lk_t (am_lk_t hsk))))
  have hga := am_w_get (ad := ad) (ys := yc) ha
  rw [am_e_i ht.1 (by omega) (by omega)] at hga
  have hgb := am_w_get (ad := ad) (ys := yc) hb
  rw [am_e_i ht.2.1 (by omega) (by omega)] at hgb
  have hset := am_w_set (ad := ad) (ys := yc) (h := h) (h1 := cpI h a sp.toNat b dp.toNat n.toNat) hb rfl (fun j hj => am_e_same hw.2.2 (fun _ _ => rfl) rfl (fun k => by rw [rI_cp, if_neg (fun e => hj e.1)]) (fun _ => rfl))
  rw [am_e_i (h := cpI h a sp.toNat b dp.toNat n.toNat) ht.2.1 (by omega) (by omega)] at hset
  have ng : ∀ {x : Int}, am_n32 x → 0 ≤ x → ¬ Int32.ofInt x < 0 := fun hx h0 e => by have := (am_lt hx am_n32_0).mp e; omega
  have hF : 1 ≤ R.frames := by rw [hR1]; omega
  have hLc : (([] : List Value).map fun v => v.category).sum + (nativeFrameWords "java/lang/System" "arraycopy" 5 + 11) ≤ R.locals := by
    have e9 : nativeFrameWords "java/lang/System" "arraycopy" 5 ≤ 100 := by decide +kernel
    rw [hR2]
    show 0 + _ ≤ _
    omega
  refine va_copyi C.1 C.2.1 (C.2.2.1.trans hl.1.symm) C.2.2.2.1 (C.2.2.2.2.1 _ hlink) (C.2.2.2.2.1 _ h1) (C.2.2.2.2.1 _ h2) (C.2.2.2.2.1 _ h3) C.ev.1 hw.1 hw.2.1 hV a b 0 0 hga hgb rfl rfl rfl (ng hsp ht.2.2.1) (ng hdp ht.2.2.2.1) (ng hn ht.2.2.2.2.1) (by rw [am_clamp hsp, am_clamp hn]; omega) (by rw [am_clamp hdp, am_clamp hn]; omega) (fun _ _ => rfl) hF hLc hd fun H1 locs1 hP1 hD1 hV1 => ?_
  have e : va_cpy (fun j => Int32.ofInt (rI h a j)) (fun j => Int32.ofInt (rI h b j)) sp.toNat dp.toNat n.toNat = (fun j => Int32.ofInt (rI (cpI h a sp.toNat b dp.toNat n.toNat) b j)) := by
    funext j
    unfold va_cpy
    rw [rI_cp]
    by_cases hj : dp.toNat ≤ j ∧ j < dp.toNat + n.toNat
    · rw [if_pos hj, if_pos ⟨rfl, hj⟩]
    · rw [if_neg hj, if_neg (fun e => hj e.2)]
  rw [am_clamp hsp, am_clamp hdp, am_clamp hn, e] at hP1 hD1
  exact kk H1 locs1 _ ⟨hset ▸ hP1, hset ▸ hD1, am_hk_cp hw.2.2⟩ hV1 hs5
end
