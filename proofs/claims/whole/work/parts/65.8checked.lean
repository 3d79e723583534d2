/-! EVERY METHOD CHECKED -/
theorem am_k_J0_charAt_5068e : am_ckm mJ0_charAt_5068e [] = true := by decide +kernel
theorem am_k_J0_coder_7d493 : am_ckm mJ0_coder_7d493 [] = true := by decide +kernel
theorem am_k_J0_isLatin1_aae02 : am_ckm mJ0_isLatin1_aae02 [] = true := by decide +kernel
theorem am_k_J0_checkIndex_df160 : am_ckm mJ0_checkIndex_df160 [] = true := by decide +kernel
theorem am_k_J1_charAt_3b067 : am_ckm mJ1_charAt_3b067 [] = true := by decide +kernel
theorem am_k_J7_fill_53178 : am_ckm mJ7_fill_53178 [] = true := by decide +kernel
theorem am_k_J7_copyOf_59c91 : am_ckm mJ7_copyOf_59c91 [] = true := by decide +kernel
theorem am_k_J3_checkIndex_8e157 : am_ckm mJ3_checkIndex_8e157 [] = true := by decide +kernel
theorem am_k_L_county : am_ckm mL_county [693, 694] = true := by decide +kernel
theorem am_k_L_law : am_ckm mL_law [693] = true := by decide +kernel
theorem am_k_L_border : am_ckm mL_border [1039, 1040] = true := by decide +kernel
theorem am_k_L_between : am_ckm mL_between [1039] = true := by decide +kernel
theorem am_k_L_family : am_ckm mL_family [1039, 1040] = true := by decide +kernel
theorem am_k_L_years : am_ckm mL_years [693] = true := by decide +kernel
theorem am_k_L_raise : am_ckm mL_raise [1039, 1209] = true := by decide +kernel
theorem am_k_L_pull : am_ckm mL_pull [1039, 1209] = true := by decide +kernel
theorem am_k_L_gate : am_ckm mL_gate [1039, 1209] = true := by decide +kernel
theorem am_k_L_string : am_ckm mL_string [1039, 1209] = true := by decide +kernel
theorem am_k_L_again : am_ckm mL_again [1039, 693, 1209] = true := by decide +kernel
theorem am_k_L_forgive : am_ckm mL_forgive [1039] = true := by decide +kernel
theorem am_k_L_move : am_ckm mL_move [1039] = true := by decide +kernel
theorem am_k_L_learn : am_ckm mL_learn [1039, 693] = true := by decide +kernel
theorem am_k_L_open : am_ckm mL_open [1039, 693] = true := by decide +kernel
theorem am_k_L_far : am_ckm mL_far [1039] = true := by decide +kernel
theorem am_k_L_meet : am_ckm mL_meet [1039, 693] = true := by decide +kernel
theorem am_k_L_halfway : am_ckm mL_halfway [1039, 693] = true := by decide +kernel
theorem am_k_L_sees : am_ckm mL_sees [1039] = true := by decide +kernel
theorem am_k_L_pulls : am_ckm mL_pulls [1039, 693] = true := by decide +kernel
theorem am_k_L_lowest : am_ckm mL_lowest [1039] = true := by decide +kernel
theorem am_k_L_closes : am_ckm mL_closes [1039, 693] = true := by decide +kernel
theorem am_k_L_lands : am_ckm mL_lands [693] = true := by decide +kernel
theorem am_k_L_wide : am_ckm mL_wide [693] = true := by decide +kernel
theorem am_k_L_land : am_ckm mL_land [1039, 693] = true := by decide +kernel
theorem am_k_L_gaps : am_ckm mL_gaps [693] = true := by decide +kernel
theorem am_k_L_all : am_ckm mL_all [693] = true := by decide +kernel
theorem am_k_L_one : am_ckm mL_one [1039] = true := by decide +kernel
theorem am_k_L_walk : am_ckm mL_walk [1039, 693] = true := by decide +kernel
theorem am_k_L_hangs : am_ckm mL_hangs [693] = true := by decide +kernel
theorem am_k_L_ends : am_ckm mL_ends [693] = true := by decide +kernel
theorem am_k_L_seen : am_ckm mL_seen [693] = true := by decide +kernel
theorem am_k_L_ask : am_ckm mL_ask [693] = true := by decide +kernel
theorem am_k_L_loses : am_ckm mL_loses [1039] = true := by decide +kernel
theorem am_k_L_pairs : am_ckm mL_pairs [1039] = true := by decide +kernel
theorem am_k_L_rests : am_ckm mL_rests [1039, 693] = true := by decide +kernel
theorem am_k_L_odds : am_ckm mL_odds [1039, 693] = true := by decide +kernel
theorem am_k_L_ahead : am_ckm mL_ahead [1039, 693] = true := by decide +kernel
theorem am_k_L_trial : am_ckm mL_trial [693] = true := by decide +kernel
theorem am_k_L_span : am_ckm mL_span [693] = true := by decide +kernel
theorem am_k_L_led : am_ckm mL_led [1039] = true := by decide +kernel
theorem am_k_L_log : am_ckm mL_log [1040] = true := by decide +kernel
