/-! STEPS: rows of rows, a row's copy, a cast -/
theorem am_findI {G : va_G} {yc : Nat → ClassId} {q : Nat → Nat} {n0 : Nat} {sc : Nat × (Nat → Int)} {s : State} (h : am_Ev G yc q n0 sc s) : s.vm.findClass "[I" = some (yc 1) := (h.1.2 0 (yc 1, .int) rfl).2
theorem hT_grid (h : am_H) (n k b : Nat) : hT (am_grid h n k) b = if b = hZ h then (6, n) else if hZ h < b ∧ b < hZ h + (1 + n) then (1, k) else hT h b := rfl
theorem rI_grid (h : am_H) (n k b j : Nat) : rI (am_grid h n k) b j = if hZ h ≤ b ∧ b < hZ h + (1 + n) then 0 else rI h b j := by
  show (if h.2.2.1 ≤ b ∧ b < h.2.2.1 + (1 + n) then (fun _ => 0) else h.2.2.2.2.1 b : Nat → Int) j = _
  by_cases e : h.2.2.1 ≤ b ∧ b < h.2.2.1 + (1 + n)
  · rw [if_pos e, if_pos (show hZ h ≤ b ∧ b < hZ h + (1 + n) from e)]
  · rw [if_neg e, if_neg (show ¬ (hZ h ≤ b ∧ b < hZ h + (1 + n)) from e)]; rfl
theorem rP_grid (h : am_H) (n k b j : Nat) : rP (am_grid h n k) b j = if b = hZ h then (if j < n then some (hZ h + 1 + j) else none) else if hZ h < b ∧ b < hZ h + (1 + n) then none else rP h b j := by
  show (if b = h.2.2.1 then (fun i => if i < n then some (h.2.2.1 + 1 + i) else none) else if h.2.2.1 < b ∧ b < h.2.2.1 + (1 + n) then (fun _ => none) else h.2.2.2.2.2 b : Nat → Option Nat) j = _
  by_cases e : b = h.2.2.1
  · rw [if_pos e, if_pos (show b = hZ h from e)]; rfl
  · rw [if_neg e, if_neg (show ¬ b = hZ h from e)]
    by_cases e2 : h.2.2.1 < b ∧ b < h.2.2.1 + (1 + n)
    · rw [if_pos e2, if_pos (show hZ h < b ∧ b < hZ h + (1 + n) from e2)]
    · rw [if_neg e2, if_neg (show ¬ (hZ h < b ∧ b < hZ h + (1 + n)) from e2)]; rfl
theorem am_hk_grid {h : am_H} {n k : Nat} (hh : am_hk h) (hn : n ≤ 100000) (hk : k ≤ 100000) : am_hk (am_grid h n k) := by
  refine ⟨fun b j => ?_, fun b j x hx => ?_, fun b => ?_⟩
  · rw [rI_grid]; split
    · exact am_n32_0
    · exact hh.1 b j
  · show x < hZ h + (1 + n)
    rw [rP_grid] at hx
    split at hx
    · split at hx
      · cases hx; omega
      · cases hx
    · split at hx
      · cases hx
      · have := hh.2.1 b j x hx; omega
  · rw [hT_grid]; split
    · exact hn
    · split
      · exact hk
      · exact hh.2.2 b
section
variable {l : Launch} {sc : Nat × (Nat → Int)} {d : Nat} {M : am_M} {r : (am_V ⊕ Nat) × am_H} {pc : Nat} {ls st : List am_V} {h : am_H}
theorem am_s_grid {n k0 : Int} {idx : Nat} (h0 : 0 ≤ n ∧ n ≤ 100000 ∧ 0 ≤ k0 ∧ k0 ≤ 100000) (hcl : Cond.classLink M.1.cls idx "[[I" ∈ am_good) (harr : Cond.arrayClass .int ∈ am_good) (hd : decode M.2.1 pc = .ok (.multianewarray idx 2, 4)) (k : am_P l sc d M (pc + 4) ls (Vr (some (hZ h)) :: st) (am_grid h n.toNat k0.toNat) r) : am_P l sc d M pc ls (Vi k0 :: Vi n :: st) h r := by
  refine am_mak (nc := 1 + n.toNat) (ns := n.toNat + n.toNat * k0.toNat) k rfl rfl (by show hZ h ≤ hZ h + (1 + n.toNat); omega) (fun {p e R s m args below meth c H locs cells slots Q G yc q n0 ad lsA stA} C hw hV hl hlk hsk hs hR1 hR2 hcells hslots kk => ?_) (fun hs => am_lk_c (show hZ h < hZ h + (1 + n.toNat) by omega) (am_lk_up (show hZ h ≤ hZ h + (1 + n.toNat) by omega) (am_lk_t (am_lk_t hs))))
  obtain ⟨m1, rfl, hs1⟩ := am_sl_i hs
  obtain ⟨m2, rfl, hs2⟩ := am_sl_i hs1
  have hk : am_n32 k0 := am_lk_h hsk
  have hn : am_n32 n := am_lk_h (am_lk_t hsk)
  have ng : ∀ {x : Int}, am_n32 x → 0 ≤ x → ¬ Int32.ofInt x < 0 := fun hx h0 e => by have := (am_lt hx am_n32_0).mp e; omega
  refine va_mna (X := am_w ad yc h) (L := []) (f := fun _ => .inr (0, [])) (ty := .int) (cy := yc 1) (z := (k0.toNat, .inl fun _ => 0)) C.1 C.2.1 C.2.2.2.1 (C.2.2.2.2.1 _ hcl) C.ev.2.2.2.2.2.2.2.2.2.2.2.1 (C.2.2.2.2.1 _ harr) (am_findI C.ev) C.ev.1 (by rw [show va_pl [] (fun _ => (Sum.inr (0, []) : va_E)) = [] from rfl, List.append_nil]; exact hw.1) (by rw [show va_pl [] (fun _ => (Sum.inr (0, []) : va_E)) = [] from rfl, List.append_nil]; exact hw.2.1) hV (am_A_of C.ev) (ng hn h0.1) (ng hk h0.2.2.1) (am_clamp hn) (am_clamp hk) (by omega) (by show k0.toNat * 4 ≤ _; omega) (by omega) rfl rfl hcells hslots (fun c => ?_) hd fun x rr cA H1 hinj hnot hK1 hP1 hD1 hV1 => ?_
  · unfold vp_cell arrV Jvm.Free.Multi.innerC
    congr 1
    apply Array.ext
    · simp
    · intro i h1 h2
      simp [defaultValue]
  · have hcA := am_K_in (t := 5) hK1 rfl
    subst hcA
    have ha1 : ∀ k, k < hZ h → (fun k => if k = hZ h then x else if hZ h < k then rr (k - hZ h - 1) else ad k) k = ad k := fun k hk => by
      show (if k = hZ h then x else if hZ h < k then rr (k - hZ h - 1) else ad k) = ad k
      rw [if_neg (by omega), if_neg (by omega)]
    have he1 : ∀ j, j < hZ h → am_e (fun k => if k = hZ h then x else if hZ h < k then rr (k - hZ h - 1) else ad k) yc (am_grid h n.toNat k0.toNat) j = am_e ad yc h j := fun j hj =>
      am_e_same hw.2.2 ha1 (by rw [hT_grid, if_neg (by omega), if_neg (by omega)]) (fun _ => by rw [rI_grid, if_neg (by omega)]) (fun _ => by rw [rP_grid, if_neg (by omega), if_neg (by omega)])
    have hp := am_w_more (ad := ad) (ad1 := fun k => if k = hZ h then x else if hZ h < k then rr (k - hZ h - 1) else ad k) (ys := yc) (h := h) (h1 := am_grid h n.toNat k0.toNat) (1 + n.toNat) rfl ha1 he1
    have ew : (am_w ad yc h ++ [(x, (Sum.inl (yc 6, n.toNat, .inr (.inr (.inr (.inr (fun i => if i < n.toNat then some (rr i) else none))))) : va_E))]) ++ va_pl ([] ++ (List.range n.toNat).map rr) (vr_up (fun _ => .inr (0, [])) ((List.range n.toNat).map rr) (.inl (yc 1, (k0.toNat, .inl fun _ => 0)))) = am_w (fun k => if k = hZ h then x else if hZ h < k then rr (k - hZ h - 1) else ad k) yc (am_grid h n.toNat k0.toNat) := by
      rw [← hp, List.append_assoc]
      congr 1
      rw [Nat.add_comm 1 n.toNat, List.range_succ_eq_map, List.map_cons, List.map_map]
      show (x, _) :: ([] ++ _) = _
      rw [List.nil_append]
      congr 1
      · refine Prod.ext (by simp) ?_
        show _ = am_e _ yc (am_grid h n.toNat k0.toNat) (hZ h + 0)
        rw [Nat.add_zero, am_e_p (t := 6) (by rw [hT_grid, if_pos rfl]) (by omega), hT_grid, if_pos rfl]
        have e1 : (fun i => if i < n.toNat then some (rr i) else none) = fun j => (rP (am_grid h n.toNat k0.toNat) (hZ h) j).map (fun k => if k = hZ h then x else if hZ h < k then rr (k - hZ h - 1) else ad k) := by
          funext j
          rw [rP_grid, if_pos rfl]
          by_cases hj : j < n.toNat
          · rw [if_pos hj, if_pos hj]
            show some (rr j) = some (if hZ h + 1 + j = hZ h then x else if hZ h < hZ h + 1 + j then rr (hZ h + 1 + j - hZ h - 1) else ad (hZ h + 1 + j))
            rw [if_neg (by omega), if_pos (by omega)]
            congr 2
            omega
          · rw [if_neg hj, if_neg hj]; rfl
        rw [e1]
      · show va_pl ([] ++ (List.range n.toNat).map rr) _ = _
        unfold va_pl
        rw [List.nil_append, List.map_map]
        apply List.map_congr_left
        intro i hi
        have hi := List.mem_range.mp hi
        have hm : rr i ∈ (List.range n.toNat).map rr := List.mem_map.mpr ⟨i, List.mem_range.mpr hi, rfl⟩
        refine Prod.ext ?_ ?_
        · show rr i = if hZ h + (i + 1) = hZ h then x else if hZ h < hZ h + (i + 1) then rr (hZ h + (i + 1) - hZ h - 1) else ad (hZ h + (i + 1))
          rw [if_neg (by omega), if_pos (by omega)]
          congr 1
          omega
        · show vr_up (fun _ => .inr (0, [])) ((List.range n.toNat).map rr) (.inl (yc 1, (k0.toNat, .inl fun _ => 0))) (rr i) = am_e _ yc (am_grid h n.toNat k0.toNat) (hZ h + (i + 1))
          rw [vr_up_in hm, am_e_i (t := 1) (by rw [hT_grid, if_neg (by omega), if_pos (by omega)]) (by omega) (by omega), hT_grid, if_neg (by omega), if_pos (by omega)]
          have e2 : (fun j => Int32.ofInt (rI (am_grid h n.toNat k0.toNat) (hZ h + (i + 1)) j)) = fun _ => (0 : Int32) := by
            funext j
            rw [rI_grid, if_pos (by omega)]
            rfl
          rw [e2]
    rw [ew] at hP1 hD1
    have h9 := kk _ H1 locs (.ref x :: m2) ha1 ⟨hP1, hD1, am_hk_grid hw.2.2 (by omega) (by omega)⟩ hV1 ⟨(by
      show Value.ref x = Value.ref (if hZ h = hZ h then x else _)
      rw [if_pos rfl]), am_sl_up ha1 (am_lk_t (am_lk_t hsk)) hs2⟩
    rw [← Nat.add_assoc, ← Nat.add_assoc] at h9
    exact h9
theorem am_s_clone {a idx : Nat} (ht : (hT h a).1 = 1) (hlink : Cond.methodLink M.1.cls idx ⟨"[I", "clone", "()Ljava/lang/Object;"⟩ ∈ am_good) (h1 : Cond.sameMethod "[I" "java/lang/Object" "clone" "()Ljava/lang/Object;" ∈ am_good) (h2 : Cond.native ⟨"java/lang/Object", "clone", "()Ljava/lang/Object;"⟩ ∈ am_good) (h3 : Cond.instanceMethod ⟨"java/lang/Object", "clone", "()Ljava/lang/Object;"⟩ ∈ am_good) (h4 : Cond.selects "[I" ⟨"[I", "clone", "()Ljava/lang/Object;"⟩ ⟨"java/lang/Object", "clone", "()Ljava/lang/Object;"⟩ ∈ am_good) (h5 : Cond.castable "[I" "java/lang/Cloneable" ∈ lw_tbl) (hst : st = []) (hd : decode M.2.1 pc = .ok (.invokevirtual idx, 3)) (k : am_P l sc d M (pc + 3) ls (Vr (some (hZ h)) :: st) (am_cln h a) r) : am_P l sc d M pc ls (Vr (some a) :: st) h r := by
  subst hst
  refine am_mak (h1 := am_cln h a) (nc := 1) (ns := (hT h a).2) k rfl rfl (Nat.le_succ _) (fun {p e R s m args below meth c H locs cells slots Q G yc q n0 ad lsA stA} C hw hV hl hlk hsk hs hR1 hR2 hcells hslots kk => ?_) (fun hs => am_lk_c (show hZ h < hZ h + 1 by omega) (am_lk_up (Nat.le_succ _) (am_lk_t hs)))
  obtain ⟨m1, rfl, hs1⟩ := am_sl_r hs
  have e5 := am_sl_n hs1
  subst e5
  have ha : a < hZ h := am_lk_h hsk
  have hg := am_w_get (ad := ad) (ys := yc) ha
  rw [am_e_i ht (by omega) (by omega)] at hg
  have hRt : hT (am_cln h a) (hZ h) = hT h a := by
    show am_u1 _ _ _ (hZ h) = _
    exact if_pos rfl
  have hRi : ∀ b j, rI (am_cln h a) b j = if b = hZ h then rI h a j else rI h b j := fun b j => by
    show (am_u1 (α := Nat → Int) _ _ _ b) j = _
    unfold am_u1
    by_cases e : b = h.2.2.1
    · rw [if_pos e, if_pos (show b = hZ h from e)]; rfl
    · rw [if_neg e, if_neg (show ¬ b = hZ h from e)]; rfl
  have hRp : ∀ b j, rP (am_cln h a) b j = if b = hZ h then none else rP h b j := fun b j => by
    show (am_u1 (α := Nat → Option Nat) _ _ _ b) j = _
    unfold am_u1
    by_cases e : b = h.2.2.1
    · rw [if_pos e, if_pos (show b = hZ h from e)]
    · rw [if_neg e, if_neg (show ¬ b = hZ h from e)]; rfl
  have hRt2 : ∀ b, b ≠ hZ h → hT (am_cln h a) b = hT h b := fun b hb => by
    show am_u1 _ _ _ b = _
    exact if_neg hb
  refine va_clone C.1 C.2.1 (C.2.2.1.trans hl.1.symm) C.2.2.2.1 (C.2.2.2.2.1 _ hlink) (C.2.2.2.2.1 _ h1) (C.2.2.2.2.1 _ h2) (C.2.2.2.2.1 _ h3) (C.2.2.2.2.1 _ h4) (C.ev.2.2.2.2.2.2.2.2.2.1 _ h5 rfl) C.ev.1 hw.1 hw.2.1 hV (am_A_of C.ev) a 0 hg rfl (am_findI C.ev) (fun i v hv => ?_) (by rw [hR1]; omega) (by rw [hR2]; show 0 + 14 ≤ _; omega) hcells hslots hd fun x H1 hK1 hP1 hD1 hV1 => ?_
  · rw [vp_cell_i] at hv
    unfold arrV at hv
    obtain ⟨h1, h2⟩ := Array.getElem?_eq_some_iff.mp hv
    simp at h2
    rw [← h2]
    rfl
  · have ha1 : ∀ k, k < hZ h → (fun k => if k = hZ h then x else ad k) k = ad k := fun k hk => if_neg (by omega)
    have hp := am_w_push (ad := ad) (ad1 := fun k => if k = hZ h then x else ad k) (ys := yc) (h := h) (h1 := am_cln h a) rfl ha1 (fun k hk => am_e_same hw.2.2 ha1 (hRt2 k (by omega)) (fun _ => by rw [hRi, if_neg (by omega)]) (fun _ => by rw [hRp, if_neg (by omega)]))
    have he : am_e (fun k => if k = hZ h then x else ad k) yc (am_cln h a) (hZ h) = .inl (yc 1, (hT h a).2, .inl fun j => Int32.ofInt (rI h a j)) := by
      rw [am_e_i (t := 1) (by rw [hRt]; exact ht) (by omega) (by omega), hRt]
      have e1 : (fun j => Int32.ofInt (rI (am_cln h a) (hZ h) j)) = fun j => Int32.ofInt (rI h a j) := by
        funext j; rw [hRi, if_pos rfl]
      rw [e1]
    rw [he] at hp
    simp only [if_true] at hp
    refine kk _ H1 locs _ ha1 ⟨hp ▸ hP1, hp ▸ hD1, ?_⟩ hV1 ⟨?_, trivial⟩
    · refine ⟨fun b j => ?_, fun b j y hy => ?_, fun b => ?_⟩
      · rw [hRi]; split
        · exact hw.2.2.1 _ _
        · exact hw.2.2.1 _ _
      · rw [hRp] at hy
        split at hy
        · cases hy
        · exact Nat.lt_succ_of_lt (hw.2.2.2.1 b j y hy)
      · by_cases hb : b = hZ h
        · rw [hb, hRt]; exact hw.2.2.2.2 a
        · rw [hRt2 b hb]; exact hw.2.2.2.2 b
    · show Value.ref x = Value.ref (if hZ h = hZ h then x else ad (hZ h))
      rw [if_pos rfl]
theorem am_s_cast {a idx : Nat} (ht : (hT h a).1 = 1) (hlink : Cond.classLink M.1.cls idx "[I" ∈ am_good) (hd : decode M.2.1 pc = .ok (.checkcast idx, 3)) (k : am_P l sc d M (pc + 3) ls (Vr (some a) :: st) h r) : am_P l sc d M pc ls (Vr (some a) :: st) h r := by
  refine am_stk k (fun {p e R s m args below meth c H locs cells slots Q G yc q n0 ad lsA stA} C hw hV hl hlk hsk hs kk => ?_) (fun hh hl hs => hs)
  obtain ⟨m1, rfl, hs1⟩ := am_sl_r hs
  have hg := am_w_get (ad := ad) (ys := yc) (h := h) (k := a) (am_lk_h hsk)
  rw [am_e_i ht (by omega) (by omega)] at hg
  exact va_castA C.1 C.2.1 C.2.2.2.1 (C.2.2.2.2.1 _ hlink) hw.1 a hg (am_findI C.ev) hd (kk _ ⟨rfl, hs1⟩)
end
