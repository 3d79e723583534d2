/-! THE LAW CHECKED: from 0 -/
theorem am_kl_0_0 : am_cka (am_mt mL_law_) cd_L_law_ (cd_L_law__0.take 40) 0 = true := by decide +kernel
theorem am_kl_0_1 : am_cka (am_mt mL_law_) cd_L_law_ ((cd_L_law__0.drop 40).take 40) 40 = true := by decide +kernel
theorem am_kl_0_2 : am_cka (am_mt mL_law_) cd_L_law_ (((cd_L_law__0.drop 40).drop 40).take 40) 80 = true := by decide +kernel
theorem am_kl_0_3 : am_cka (am_mt mL_law_) cd_L_law_ ((((cd_L_law__0.drop 40).drop 40).drop 40).take 40) 120 = true := by decide +kernel
theorem am_kl_0_4 : am_cka (am_mt mL_law_) cd_L_law_ ((((cd_L_law__0.drop 40).drop 40).drop 40).drop 40) 160 = true := by decide +kernel
theorem am_kl_0 : am_cka (am_mt mL_law_) cd_L_law_ cd_L_law__0 0 = true := am_cka_split 40 (by decide +kernel) am_kl_0_0 (am_cka_split 40 (by decide +kernel) am_kl_0_1 (am_cka_split 40 (by decide +kernel) am_kl_0_2 (am_cka_split 40 (by decide +kernel) am_kl_0_3 (am_kl_0_4))))
