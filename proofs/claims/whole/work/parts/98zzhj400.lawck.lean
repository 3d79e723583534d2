/-! THE LAW CHECKED: from 400 -/
theorem am_kl_400_0 : am_cka (am_mt mL_law_) cd_L_law_ (cd_L_law__400.take 40) 400 = true := by decide +kernel
theorem am_kl_400_1 : am_cka (am_mt mL_law_) cd_L_law_ ((cd_L_law__400.drop 40).take 40) 440 = true := by decide +kernel
theorem am_kl_400_2 : am_cka (am_mt mL_law_) cd_L_law_ (((cd_L_law__400.drop 40).drop 40).take 40) 480 = true := by decide +kernel
theorem am_kl_400_3 : am_cka (am_mt mL_law_) cd_L_law_ ((((cd_L_law__400.drop 40).drop 40).drop 40).take 40) 520 = true := by decide +kernel
theorem am_kl_400_4 : am_cka (am_mt mL_law_) cd_L_law_ ((((cd_L_law__400.drop 40).drop 40).drop 40).drop 40) 560 = true := by decide +kernel
theorem am_kl_400 : am_cka (am_mt mL_law_) cd_L_law_ cd_L_law__400 400 = true := am_cka_split 40 (by decide +kernel) am_kl_400_0 (am_cka_split 40 (by decide +kernel) am_kl_400_1 (am_cka_split 40 (by decide +kernel) am_kl_400_2 (am_cka_split 40 (by decide +kernel) am_kl_400_3 (am_kl_400_4))))
