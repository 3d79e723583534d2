/-! STEPS: throws and returns -/
def am_xs : List String := ["java/lang/RuntimeException", "java/lang/Exception"]
theorem am_xfit : ∀ e, e < 6 → Bundle.fit (am_xn e) = true := by decide +kernel
theorem am_xsfit : ∀ n ∈ am_xs, Bundle.fit n = true := by decide +kernel
section
variable {l : Launch} {sc : Nat × (Nat → Int)} {d : Nat} {M : am_M} {pc : Nat} {ls st : List am_V} {h : am_H}
theorem am_in_ok {w : Jvm.Cond} (hw : w ∈ am_good ∨ (w ∈ lw_tbl ∧ am_xw w = true)) : vx_ot w = true := by
  unfold vx_ot
  rcases hw with hw | hw
  · rw [(List.mem_filter.mp hw).2, Bool.or_true]
  · rw [am_xw_tab hw.2, Bool.true_or]
theorem am_s_throw {E ik ic : Nat} (hE : 1 ≤ E ∧ E ≤ 5) (hk : Cond.classLink M.1.cls ik (am_xn E) ∈ am_good) (hini : Cond.initialized (am_xn E) ∈ am_good) (hat : ∀ w ∈ vx_at0 M.1.cls ic (am_xn E) am_xs, w ∈ am_good ∨ (w ∈ lw_tbl ∧ am_xw w = true)) (hh : M.2.2.2.2.2 = []) (hst : (st.map am_cat).sum ≤ 100)
    (d0 : decode M.2.1 pc = .ok (.new ik, 3)) (d3 : decode M.2.1 (pc + 3) = .ok (.dup, 1)) (d4 : decode M.2.1 (pc + 4) = .ok (.invokespecial ic, 3)) (d7 : decode M.2.1 (pc + 7) = .ok (.athrow, 1)) : am_P l sc d M pc ls st h (.inr E, am_ex h) := by
  refine ⟨⟨Nat.le_succ _, Nat.le_add_right _ _, Nat.le_refl _⟩, fun p e s m args below meth c G yc q n0 h0 ad0 C hm H locs ad lsA stA ha hw hV hl hs hlk hsk => ?_⟩
  have e1 : hC (am_ex h) - hC h0 = hC h - hC h0 + 1 := by have := hm.1; show hC h + 1 - hC h0 = _; omega
  have e2 : hS (am_ex h) - hS h0 = hS h - hS h0 + 6 := by have := hm.2.1; show hS h + 6 - hS h0 = _; omega
  have hgw : ∀ w ∈ vx_at0 M.1.cls ic (am_xn E) am_xs, w.before args s = true := fun w hw0 => by
    rcases hat w hw0 with h1 | ⟨h1, h2⟩
    · exact C.2.2.2.2.1 _ h1
    · exact va_Nw.use (am_xw_tab h2) (C.ev.2.2.2.2.2.2.2.2.2.1 _ h1 h2)
  refine vx_throw0 (names := am_xs) (A := am_A n0) C.1 C.2.1 C.2.2.2.2.2.2.2.2.2.1 C.2.2.2.1 (am_xfit E (by omega)) am_xsfit (C.2.2.2.2.1 _ hk) (C.2.2.2.2.1 _ hini) hgw (fun w hw0 => ?_) C.ev.2.2.2.2.2.1 C.ev.2.2.2.2.2.2.1 hV (hl.1.trans C.2.2.1.symm) d0 d3 d4 d7 (fun x hx => by rw [C.2.2.2.2.2.2.2.2.1, hh] at hx; cases hx) (by show 2 + 3 < d + 10; omega) (by rw [am_sl_catsum hs]; show (st.map am_cat).sum + (13 * (2 + 1) + 42) ≤ (d + 1) * 60 + 200; omega) (by show _ ≤ hC (am_ex h) - hC h0; omega) (by show _ ≤ hS (am_ex h) - hS h0; omega) C.2.2.2.2.2.1 (fun t hA hz hq => ?_) hV.2.2 (by show _ ≤ hC (am_ex h) - hC h0; omega) (by show _ ≤ hS (am_ex h) - hS h0; omega)
  · rcases List.mem_cons.mp hw0 with rfl | hw0
    · exact am_in_ok (Or.inl hk)
    · rcases List.mem_cons.mp hw0 with rfl | hw0
      · exact am_in_ok (Or.inl hini)
      · exact am_in_ok (hat w hw0)
  · exact ⟨E, ad, rfl, hE, rfl, ha, ⟨hw.1.kept (fun k x hx => hq _ (hw.1 k x hx).lt), hw.2.1, hw.2.2⟩, Nat.le_trans hV.1 hz, fun x h1 h2 => (hq x (Nat.lt_of_lt_of_le h1 hV.1)).trans (hV.2.1 x h1 h2)⟩
theorem am_s_iret {x : Int} (hr : M.2.2.2.1 = some .int) (hd : decode M.2.1 pc = .ok (.ireturn, 1)) : am_P l sc d M pc ls [Vi x] h (.inl (Vi x), h) := by
  refine ⟨am_mono.rf h, fun p e s m args below meth c G yc q n0 h0 ad0 C hm H locs ad lsA stA ha hw hV hl hs hlk hsk => ?_⟩
  obtain ⟨m1, rfl, hs1⟩ := am_sl_i hs
  have := am_sl_n hs1
  subst this
  refine vx_ret (W.iret C.1 C.2.1 (C.2.2.2.2.2.2.1.trans hr) (fun t ht hW => ?_) hV.2.2 hd C.2.2.2.2.2.1)
  exact ⟨Vi x, ad, rfl, by rw [hr]; exact ⟨x, rfl⟩, am_lk_h hsk, rfl, ha, by rw [ht]; exact hw, hV.F ht⟩
theorem am_s_zret {x : Int} {ty : FieldType} (hr : M.2.2.2.1 = some ty) (hty : (ty = .boolean ∧ (x = 0 ∨ x = 1)) ∨ (ty = .char ∧ 0 ≤ x ∧ x < 65536) ∨ (ty = .byte ∧ x = 0)) (hd : decode M.2.1 pc = .ok (.ireturn, 1)) : am_P l sc d M pc ls [Vi x] h (.inl (Vi x), h) := by
  refine ⟨am_mono.rf h, fun p e s m args below meth c G yc q n0 h0 ad0 C hm H locs ad lsA stA ha hw hV hl hs hlk hsk => ?_⟩
  obtain ⟨m1, rfl, hs1⟩ := am_sl_i hs
  have := am_sl_n hs1
  subst this
  have hx : am_n32 x := am_lk_h hsk
  have hn : narrow ty (.int (Int32.ofInt x)) = .int (Int32.ofInt x) := by
    rcases hty with ⟨rfl, rfl | rfl⟩ | ⟨rfl, h1, h2⟩ | ⟨rfl, rfl⟩
    · rfl
    · rfl
    · show Value.int (Int32.ofInt x).toUInt32.toUInt16.toUInt32.toInt32 = _
      rw [lg_i2c_small (by rw [am_toInt hx]; exact h1) (by rw [am_toInt hx]; exact h2)]
    · rfl
  refine vx_ret (W.zret C.1 C.2.1 (C.2.2.2.2.2.2.1.trans hr) hn (fun t ht hW => ?_) hV.2.2 hd C.2.2.2.2.2.1)
  refine ⟨Vi x, ad, rfl, ?_, hx, rfl, ha, by rw [ht]; exact hw, hV.F ht⟩
  rw [hr]
  rcases hty with ⟨rfl, -⟩ | ⟨rfl, -⟩ | ⟨rfl, -⟩ <;> exact ⟨x, rfl⟩
theorem am_s_vret (hr : M.2.2.2.1 = none) (hd : decode M.2.1 pc = .ok (.return_, 1)) : am_P l sc d M pc ls [] h (.inl (Vx 0), h) := by
  refine ⟨am_mono.rf h, fun p e s m args below meth c G yc q n0 h0 ad0 C hm H locs ad lsA stA ha hw hV hl hs hlk hsk => ?_⟩
  have := am_sl_n hs
  subst this
  refine vx_ret (W.vret C.1 C.2.1 (C.2.2.2.2.2.2.1.trans hr) (fun t ht hW => ?_) hV.2.2 hd C.2.2.2.2.2.1)
  exact ⟨Vx 0, ad, rfl, by rw [hr]; exact rfl, trivial, rfl, ha, by rw [ht]; exact hw, hV.F ht⟩
theorem am_s_aret {a : Nat} {ty : FieldType} (hr : M.2.2.2.1 = some ty) (hty : (∃ n, ty = .object n) ∨ ∃ t, ty = .array t) (hd : decode M.2.1 pc = .ok (.areturn, 1)) : am_P l sc d M pc ls [Vr (some a)] h (.inl (Vr (some a)), h) := by
  refine ⟨am_mono.rf h, fun p e s m args below meth c G yc q n0 h0 ad0 C hm H locs ad lsA stA ha hw hV hl hs hlk hsk => ?_⟩
  obtain ⟨m1, rfl, hs1⟩ := am_sl_r hs
  have := am_sl_n hs1
  subst this
  refine vx_ret (W.aret (v := .ref (ad a)) C.1 C.2.1 (C.2.2.2.2.2.2.1.trans hr) hty (Or.inr ⟨_, rfl⟩) (fun t ht hW => ?_) hV.2.2 hd C.2.2.2.2.2.1)
  refine ⟨Vr (some a), ad, rfl, ?_, am_lk_h hsk, rfl, ha, by rw [ht]; exact hw, hV.F ht⟩
  rw [hr]
  rcases hty with ⟨n, rfl⟩ | ⟨t, rfl⟩ <;> exact ⟨a, rfl⟩
end
