/-! THE LAW CHECKED: from 600 -/
theorem am_kl_600_0 : am_cka (am_mt mL_law_) cd_L_law_ (cd_L_law__600.take 40) 600 = true := by decide +kernel
theorem am_kl_600_1 : am_cka (am_mt mL_law_) cd_L_law_ ((cd_L_law__600.drop 40).take 40) 640 = true := by decide +kernel
theorem am_kl_600_2 : am_cka (am_mt mL_law_) cd_L_law_ (((cd_L_law__600.drop 40).drop 40).take 40) 680 = true := by decide +kernel
theorem am_kl_600_3 : am_cka (am_mt mL_law_) cd_L_law_ ((((cd_L_law__600.drop 40).drop 40).drop 40).take 40) 720 = true := by decide +kernel
theorem am_kl_600_4 : am_cka (am_mt mL_law_) cd_L_law_ ((((cd_L_law__600.drop 40).drop 40).drop 40).drop 40) 760 = true := by decide +kernel
theorem am_kl_600 : am_cka (am_mt mL_law_) cd_L_law_ cd_L_law__600 600 = true := am_cka_split 40 (by decide +kernel) am_kl_600_0 (am_cka_split 40 (by decide +kernel) am_kl_600_1 (am_cka_split 40 (by decide +kernel) am_kl_600_2 (am_cka_split 40 (by decide +kernel) am_kl_600_3 (am_kl_600_4))))
