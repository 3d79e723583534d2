/-! THE LAW CHECKED: from 1200 -/
theorem am_kl_1200_0 : am_cka (am_mt mL_law_) cd_L_law_ (cd_L_law__1200.take 40) 1200 = true := by decide +kernel
theorem am_kl_1200_1 : am_cka (am_mt mL_law_) cd_L_law_ ((cd_L_law__1200.drop 40).take 40) 1240 = true := by decide +kernel
theorem am_kl_1200_2 : am_cka (am_mt mL_law_) cd_L_law_ (((cd_L_law__1200.drop 40).drop 40).take 40) 1280 = true := by decide +kernel
theorem am_kl_1200_3 : am_cka (am_mt mL_law_) cd_L_law_ ((((cd_L_law__1200.drop 40).drop 40).drop 40).take 40) 1320 = true := by decide +kernel
theorem am_kl_1200_4 : am_cka (am_mt mL_law_) cd_L_law_ ((((cd_L_law__1200.drop 40).drop 40).drop 40).drop 40) 1360 = true := by decide +kernel
theorem am_kl_1200 : am_cka (am_mt mL_law_) cd_L_law_ cd_L_law__1200 1200 = true := am_cka_split 40 (by decide +kernel) am_kl_1200_0 (am_cka_split 40 (by decide +kernel) am_kl_1200_1 (am_cka_split 40 (by decide +kernel) am_kl_1200_2 (am_cka_split 40 (by decide +kernel) am_kl_1200_3 (am_kl_1200_4))))
