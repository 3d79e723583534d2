/-! THE LAW CHECKED: from 2000 -/
theorem am_kl_2000_0 : am_cka (am_mt mL_law_) cd_L_law_ (cd_L_law__2000.take 40) 2000 = true := by decide +kernel
theorem am_kl_2000_1 : am_cka (am_mt mL_law_) cd_L_law_ (cd_L_law__2000.drop 40) 2040 = true := by decide +kernel
theorem am_kl_2000 : am_cka (am_mt mL_law_) cd_L_law_ cd_L_law__2000 2000 = true := am_cka_split 40 (by decide +kernel) am_kl_2000_0 (am_kl_2000_1)
