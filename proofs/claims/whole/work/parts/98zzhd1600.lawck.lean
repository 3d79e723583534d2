/-! THE LAW CHECKED: from 1600 -/
theorem am_kl_1600_0 : am_cka (am_mt mL_law_) cd_L_law_ (cd_L_law__1600.take 40) 1600 = true := by decide +kernel
theorem am_kl_1600_1 : am_cka (am_mt mL_law_) cd_L_law_ ((cd_L_law__1600.drop 40).take 40) 1640 = true := by decide +kernel
theorem am_kl_1600_2 : am_cka (am_mt mL_law_) cd_L_law_ (((cd_L_law__1600.drop 40).drop 40).take 40) 1680 = true := by decide +kernel
theorem am_kl_1600_3 : am_cka (am_mt mL_law_) cd_L_law_ ((((cd_L_law__1600.drop 40).drop 40).drop 40).take 40) 1720 = true := by decide +kernel
theorem am_kl_1600_4 : am_cka (am_mt mL_law_) cd_L_law_ ((((cd_L_law__1600.drop 40).drop 40).drop 40).drop 40) 1760 = true := by decide +kernel
theorem am_kl_1600 : am_cka (am_mt mL_law_) cd_L_law_ cd_L_law__1600 1600 = true := am_cka_split 40 (by decide +kernel) am_kl_1600_0 (am_cka_split 40 (by decide +kernel) am_kl_1600_1 (am_cka_split 40 (by decide +kernel) am_kl_1600_2 (am_cka_split 40 (by decide +kernel) am_kl_1600_3 (am_kl_1600_4))))
