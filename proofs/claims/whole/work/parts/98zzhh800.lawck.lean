/-! THE LAW CHECKED: from 800 -/
theorem am_kl_800_0 : am_cka (am_mt mL_law_) cd_L_law_ (cd_L_law__800.take 40) 800 = true := by decide +kernel
theorem am_kl_800_1 : am_cka (am_mt mL_law_) cd_L_law_ ((cd_L_law__800.drop 40).take 40) 840 = true := by decide +kernel
theorem am_kl_800_2 : am_cka (am_mt mL_law_) cd_L_law_ (((cd_L_law__800.drop 40).drop 40).take 40) 880 = true := by decide +kernel
theorem am_kl_800_3 : am_cka (am_mt mL_law_) cd_L_law_ ((((cd_L_law__800.drop 40).drop 40).drop 40).take 40) 920 = true := by decide +kernel
theorem am_kl_800_4 : am_cka (am_mt mL_law_) cd_L_law_ ((((cd_L_law__800.drop 40).drop 40).drop 40).drop 40) 960 = true := by decide +kernel
theorem am_kl_800 : am_cka (am_mt mL_law_) cd_L_law_ cd_L_law__800 800 = true := am_cka_split 40 (by decide +kernel) am_kl_800_0 (am_cka_split 40 (by decide +kernel) am_kl_800_1 (am_cka_split 40 (by decide +kernel) am_kl_800_2 (am_cka_split 40 (by decide +kernel) am_kl_800_3 (am_kl_800_4))))
