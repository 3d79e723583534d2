/-! THE LAW CHECKED -/
theorem am_cka_app {M : am_M} {cd : List am_E} : ∀ {l1 l2 : List am_E} {i k : Nat}, l1.length = k → am_cka M cd l1 i = true → am_cka M cd l2 (i + k) = true → am_cka M cd (l1 ++ l2) i = true
  | [], l2, i, k, hk, _, h => by
    have : k = 0 := hk.symm
    subst this
    exact h
  | e :: l1, l2, i, k, hk, h1, h2 => by
    simp only [am_cka, Bool.and_eq_true] at h1
    have hk : l1.length + 1 = k := hk
    have := am_cka_app (l1 := l1) (l2 := l2) (i := i + 1) (k := l1.length) rfl h1.2 (by rw [show i + 1 + l1.length = i + k by omega]; exact h2)
    simp only [List.cons_append, am_cka, Bool.and_eq_true]
    exact ⟨h1.1, this⟩
theorem am_kl_0 : am_cka (am_mt mL_law_) cd_L_law_ cd_L_law__0 0 = true := by decide +kernel
theorem am_kl_200 : am_cka (am_mt mL_law_) cd_L_law_ cd_L_law__200 200 = true := by decide +kernel
theorem am_kl_400 : am_cka (am_mt mL_law_) cd_L_law_ cd_L_law__400 400 = true := by decide +kernel
theorem am_kl_600 : am_cka (am_mt mL_law_) cd_L_law_ cd_L_law__600 600 = true := by decide +kernel
theorem am_kl_800 : am_cka (am_mt mL_law_) cd_L_law_ cd_L_law__800 800 = true := by decide +kernel
theorem am_kl_1000 : am_cka (am_mt mL_law_) cd_L_law_ cd_L_law__1000 1000 = true := by decide +kernel
theorem am_kl_1200 : am_cka (am_mt mL_law_) cd_L_law_ cd_L_law__1200 1200 = true := by decide +kernel
theorem am_kl_1400 : am_cka (am_mt mL_law_) cd_L_law_ cd_L_law__1400 1400 = true := by decide +kernel
theorem am_kl_1600 : am_cka (am_mt mL_law_) cd_L_law_ cd_L_law__1600 1600 = true := by decide +kernel
theorem am_kl_1800 : am_cka (am_mt mL_law_) cd_L_law_ cd_L_law__1800 1800 = true := by decide +kernel
theorem am_kl_2000 : am_cka (am_mt mL_law_) cd_L_law_ cd_L_law__2000 2000 = true := by decide +kernel
theorem am_k_L_law_ : am_ckm mL_law_ [] = true := by
  have h : am_cka (am_mt mL_law_) cd_L_law_ cd_L_law_ 0 = true := (am_cka_app (k := 200) rfl am_kl_0 (am_cka_app (k := 200) rfl am_kl_200 (am_cka_app (k := 200) rfl am_kl_400 (am_cka_app (k := 200) rfl am_kl_600 (am_cka_app (k := 200) rfl am_kl_800 (am_cka_app (k := 200) rfl am_kl_1000 (am_cka_app (k := 200) rfl am_kl_1200 (am_cka_app (k := 200) rfl am_kl_1400 (am_cka_app (k := 200) rfl am_kl_1600 (am_cka_app (k := 200) rfl am_kl_1800 am_kl_2000))))))))))
  have e : am_at mL_law_ = (cd_L_law_, [], 7) := at_L_law_
  unfold am_ckm
  rw [e]
  simp only [Bool.and_eq_true, decide_eq_true_eq]
  exact ⟨⟨⟨rfl, rfl⟩, rfl⟩, h⟩
