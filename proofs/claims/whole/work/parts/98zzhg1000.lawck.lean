/-! THE LAW CHECKED: from 1000 -/
theorem am_kl_1000_0 : am_cka (am_mt mL_law_) cd_L_law_ (cd_L_law__1000.take 40) 1000 = true := by decide +kernel
theorem am_kl_1000_1 : am_cka (am_mt mL_law_) cd_L_law_ ((cd_L_law__1000.drop 40).take 40) 1040 = true := by decide +kernel
theorem am_kl_1000_2 : am_cka (am_mt mL_law_) cd_L_law_ (((cd_L_law__1000.drop 40).drop 40).take 40) 1080 = true := by decide +kernel
theorem am_kl_1000_3 : am_cka (am_mt mL_law_) cd_L_law_ ((((cd_L_law__1000.drop 40).drop 40).drop 40).take 40) 1120 = true := by decide +kernel
theorem am_kl_1000_4 : am_cka (am_mt mL_law_) cd_L_law_ ((((cd_L_law__1000.drop 40).drop 40).drop 40).drop 40) 1160 = true := by decide +kernel
theorem am_kl_1000 : am_cka (am_mt mL_law_) cd_L_law_ cd_L_law__1000 1000 = true := am_cka_split 40 (by decide +kernel) am_kl_1000_0 (am_cka_split 40 (by decide +kernel) am_kl_1000_1 (am_cka_split 40 (by decide +kernel) am_kl_1000_2 (am_cka_split 40 (by decide +kernel) am_kl_1000_3 (am_kl_1000_4))))
