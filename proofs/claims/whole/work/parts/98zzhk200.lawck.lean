/-! THE LAW CHECKED: from 200 -/
theorem am_kl_200_0 : am_cka (am_mt mL_law_) cd_L_law_ (cd_L_law__200.take 40) 200 = true := by decide +kernel
theorem am_kl_200_1 : am_cka (am_mt mL_law_) cd_L_law_ ((cd_L_law__200.drop 40).take 40) 240 = true := by decide +kernel
theorem am_kl_200_2 : am_cka (am_mt mL_law_) cd_L_law_ (((cd_L_law__200.drop 40).drop 40).take 40) 280 = true := by decide +kernel
theorem am_kl_200_3 : am_cka (am_mt mL_law_) cd_L_law_ ((((cd_L_law__200.drop 40).drop 40).drop 40).take 40) 320 = true := by decide +kernel
theorem am_kl_200_4 : am_cka (am_mt mL_law_) cd_L_law_ ((((cd_L_law__200.drop 40).drop 40).drop 40).drop 40) 360 = true := by decide +kernel
theorem am_kl_200 : am_cka (am_mt mL_law_) cd_L_law_ cd_L_law__200 200 = true := am_cka_split 40 (by decide +kernel) am_kl_200_0 (am_cka_split 40 (by decide +kernel) am_kl_200_1 (am_cka_split 40 (by decide +kernel) am_kl_200_2 (am_cka_split 40 (by decide +kernel) am_kl_200_3 (am_kl_200_4))))
