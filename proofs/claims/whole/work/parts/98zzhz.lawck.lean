/-! THE LAW CHECKED -/
theorem am_k_L_law_ : am_ckm mL_law_ [] = true := by
  have h : am_cka (am_mt mL_law_) cd_L_law_ cd_L_law_ 0 = true := (am_cka_app (k := 200) rfl am_kl_0 (am_cka_app (k := 200) rfl am_kl_200 (am_cka_app (k := 200) rfl am_kl_400 (am_cka_app (k := 200) rfl am_kl_600 (am_cka_app (k := 200) rfl am_kl_800 (am_cka_app (k := 200) rfl am_kl_1000 (am_cka_app (k := 200) rfl am_kl_1200 (am_cka_app (k := 200) rfl am_kl_1400 (am_cka_app (k := 200) rfl am_kl_1600 (am_cka_app (k := 200) rfl am_kl_1800 am_kl_2000))))))))))
  have e : am_at mL_law_ = (cd_L_law_, [], 7) := at_L_law_
  unfold am_ckm
  rw [e]
  simp only [Bool.and_eq_true, decide_eq_true_eq]
  exact ⟨⟨⟨rfl, rfl⟩, rfl⟩, h⟩
