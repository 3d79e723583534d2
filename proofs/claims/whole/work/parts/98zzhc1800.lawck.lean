/-! THE LAW CHECKED: from 1800 -/
theorem am_kl_1800_0 : am_cka (am_mt mL_law_) cd_L_law_ (cd_L_law__1800.take 40) 1800 = true := by decide +kernel
theorem am_kl_1800_1 : am_cka (am_mt mL_law_) cd_L_law_ ((cd_L_law__1800.drop 40).take 40) 1840 = true := by decide +kernel
theorem am_kl_1800_2 : am_cka (am_mt mL_law_) cd_L_law_ (((cd_L_law__1800.drop 40).drop 40).take 40) 1880 = true := by decide +kernel
theorem am_kl_1800_3 : am_cka (am_mt mL_law_) cd_L_law_ ((((cd_L_law__1800.drop 40).drop 40).drop 40).take 40) 1920 = true := by decide +kernel
theorem am_kl_1800_4 : am_cka (am_mt mL_law_) cd_L_law_ ((((cd_L_law__1800.drop 40).drop 40).drop 40).drop 40) 1960 = true := by decide +kernel
theorem am_kl_1800 : am_cka (am_mt mL_law_) cd_L_law_ cd_L_law__1800 1800 = true := am_cka_split 40 (by decide +kernel) am_kl_1800_0 (am_cka_split 40 (by decide +kernel) am_kl_1800_1 (am_cka_split 40 (by decide +kernel) am_kl_1800_2 (am_cka_split 40 (by decide +kernel) am_kl_1800_3 (am_kl_1800_4))))
