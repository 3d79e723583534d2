/-! THE LAW CHECKED: from 1400 -/
theorem am_kl_1400_0 : am_cka (am_mt mL_law_) cd_L_law_ (cd_L_law__1400.take 40) 1400 = true := by decide +kernel
theorem am_kl_1400_1 : am_cka (am_mt mL_law_) cd_L_law_ ((cd_L_law__1400.drop 40).take 40) 1440 = true := by decide +kernel
theorem am_kl_1400_2 : am_cka (am_mt mL_law_) cd_L_law_ (((cd_L_law__1400.drop 40).drop 40).take 40) 1480 = true := by decide +kernel
theorem am_kl_1400_3 : am_cka (am_mt mL_law_) cd_L_law_ ((((cd_L_law__1400.drop 40).drop 40).drop 40).take 40) 1520 = true := by decide +kernel
theorem am_kl_1400_4 : am_cka (am_mt mL_law_) cd_L_law_ ((((cd_L_law__1400.drop 40).drop 40).drop 40).drop 40) 1560 = true := by decide +kernel
theorem am_kl_1400 : am_cka (am_mt mL_law_) cd_L_law_ cd_L_law__1400 1400 = true := am_cka_split 40 (by decide +kernel) am_kl_1400_0 (am_cka_split 40 (by decide +kernel) am_kl_1400_1 (am_cka_split 40 (by decide +kernel) am_kl_1400_2 (am_cka_split 40 (by decide +kernel) am_kl_1400_3 (am_kl_1400_4))))
