/-! ALL CHECKED -/
theorem am_pf_all : (List.range 429).all (fun m => plainFor (am_mt m).1) = true := by decide +kernel
theorem am_len_prog : am_prog.length = 429 := by decide +kernel
theorem am_kk_0 : ∀ m, 0 ≤ m → m < 40 → ∃ x, am_ckm m x = true := by
  intro m h1 h2
  have h9 : m = 0 ∨ m = 1 ∨ m = 2 ∨ m = 3 ∨ m = 4 ∨ m = 5 ∨ m = 6 ∨ m = 7 ∨ m = 8 ∨ m = 9 ∨ m = 10 ∨ m = 11 ∨ m = 12 ∨ m = 13 ∨ m = 14 ∨ m = 15 ∨ m = 16 ∨ m = 17 ∨ m = 18 ∨ m = 19 ∨ m = 20 ∨ m = 21 ∨ m = 22 ∨ m = 23 ∨ m = 24 ∨ m = 25 ∨ m = 26 ∨ m = 27 ∨ m = 28 ∨ m = 29 ∨ m = 30 ∨ m = 31 ∨ m = 32 ∨ m = 33 ∨ m = 34 ∨ m = 35 ∨ m = 36 ∨ m = 37 ∨ m = 38 ∨ m = 39 := by omega
  rcases h9 with rfl | rfl | rfl | rfl | rfl | rfl | rfl | rfl | rfl | rfl | rfl | rfl | rfl | rfl | rfl | rfl | rfl | rfl | rfl | rfl | rfl | rfl | rfl | rfl | rfl | rfl | rfl | rfl | rfl | rfl | rfl | rfl | rfl | rfl | rfl | rfl | rfl | rfl | rfl | rfl
  · exact ⟨_, am_k_X0_init⟩
  · exact ⟨_, am_k_X0_copyFrom⟩
  · exact ⟨_, am_k_X0_put⟩
  · exact ⟨_, am_k_X0_isOpen⟩
  · exact ⟨_, am_k_X0_toll⟩
  · exact ⟨_, am_k_X0_ladder⟩
  · exact ⟨_, am_k_X0_isTop⟩
  · exact ⟨_, am_k_X0_growth⟩
  · exact ⟨_, am_k_X0_soreness⟩
  · exact ⟨_, am_k_X0_passYears⟩
  · exact ⟨_, am_k_X0_grow⟩
  · exact ⟨_, am_k_X0_fret⟩
  · exact ⟨_, am_k_X0_quarrelOf⟩
  · exact ⟨_, am_k_X0_draw⟩
  · exact ⟨_, am_k_X0_endYear⟩
  · exact ⟨_, am_k_X0_tower⟩
  · exact ⟨_, am_k_X0_fences⟩
  · exact ⟨_, am_k_X0_gates⟩
  · exact ⟨_, am_k_X0_strings⟩
  · exact ⟨_, am_k_X0_highTogether⟩
  · exact ⟨_, am_k_X0_soreTogether⟩
  · exact ⟨_, am_k_X1_init⟩
  · exact ⟨_, am_k_X1_reads⟩
  · exact ⟨_, am_k_X1_readsLine⟩
  · exact ⟨_, am_k_X1_readsFence⟩
  · exact ⟨_, am_k_X1_readsRow⟩
  · exact ⟨_, am_k_X1_readsFamily⟩
  · exact ⟨_, am_k_X2_lessCell⟩
  · exact ⟨_, am_k_X2_moreCell⟩
  · exact ⟨_, am_k_X2_lessCorner⟩
  · exact ⟨_, am_k_X2_moreCorner⟩
  · exact ⟨_, am_k_X2_onSide⟩
  · exact ⟨_, am_k_X2_across⟩
  · exact ⟨_, am_k_X2_borderOf⟩
  · exact ⟨_, am_k_X2_towards⟩
  · exact ⟨_, am_k_X2_apart⟩
  · exact ⟨_, am_k_X3_init⟩
  · exact ⟨_, am_k_X3_total⟩
  · exact ⟨_, am_k_X3_holds⟩
  · exact ⟨_, am_k_X3_ofTwo⟩
theorem am_kk_40 : ∀ m, 40 ≤ m → m < 80 → ∃ x, am_ckm m x = true := by
  intro m h1 h2
  have h9 : m = 40 ∨ m = 41 ∨ m = 42 ∨ m = 43 ∨ m = 44 ∨ m = 45 ∨ m = 46 ∨ m = 47 ∨ m = 48 ∨ m = 49 ∨ m = 50 ∨ m = 51 ∨ m = 52 ∨ m = 53 ∨ m = 54 ∨ m = 55 ∨ m = 56 ∨ m = 57 ∨ m = 58 ∨ m = 59 ∨ m = 60 ∨ m = 61 ∨ m = 62 ∨ m = 63 ∨ m = 64 ∨ m = 65 ∨ m = 66 ∨ m = 67 ∨ m = 68 ∨ m = 69 ∨ m = 70 ∨ m = 71 ∨ m = 72 ∨ m = 73 ∨ m = 74 ∨ m = 75 ∨ m = 76 ∨ m = 77 ∨ m = 78 ∨ m = 79 := by omega
  rcases h9 with rfl | rfl | rfl | rfl | rfl | rfl | rfl | rfl | rfl | rfl | rfl | rfl | rfl | rfl | rfl | rfl | rfl | rfl | rfl | rfl | rfl | rfl | rfl | rfl | rfl | rfl | rfl | rfl | rfl | rfl | rfl | rfl | rfl | rfl | rfl | rfl | rfl | rfl | rfl | rfl
  · exact ⟨_, am_k_X3_fact⟩
  · exact ⟨_, am_k_X4_init⟩
  · exact ⟨_, am_k_X4_made⟩
  · exact ⟨_, am_k_X4_reads⟩
  · exact ⟨_, am_k_X4_readsLine⟩
  · exact ⟨_, am_k_X4_readsCondition⟩
  · exact ⟨_, am_k_X4_readsAtom⟩
  · exact ⟨_, am_k_X4_readsComparison⟩
  · exact ⟨_, am_k_X4_readsSum⟩
  · exact ⟨_, am_k_X4_isPart⟩
  · exact ⟨_, am_k_X4_emit⟩
  · exact ⟨_, am_k_X5_init⟩
  · exact ⟨_, am_k_X5_copyFrom⟩
  · exact ⟨_, am_k_X5_add⟩
  · exact ⟨_, am_k_X5_value⟩
  · exact ⟨_, am_k_X5_rowsOf⟩
  · exact ⟨_, am_k_X5_latestYear⟩
  · exact ⟨_, am_k_X6_init⟩
  · exact ⟨_, am_k_X6_doMeet⟩
  · exact ⟨_, am_k_X6_comesHomeTo⟩
  · exact ⟨_, am_k_X6_middle⟩
  · exact ⟨_, am_k_X6_doesSee⟩
  · exact ⟨_, am_k_X6_share⟩
  · exact ⟨_, am_k_X6_nearest⟩
  · exact ⟨_, am_k_X6_pairUp⟩
  · exact ⟨_, am_k_X6_valuePairs⟩
  · exact ⟨_, am_k_X6_bestWorth⟩
  · exact ⟨_, am_k_X6_firstBestPartner⟩
  · exact ⟨_, am_k_X6_lowestOf⟩
  · exact ⟨_, am_k_X6_pairCount⟩
  · exact ⟨_, am_k_X6_restingChoices⟩
  · exact ⟨_, am_k_X6_payoff⟩
  · exact ⟨_, am_k_X7_init⟩
  · exact ⟨_, am_k_X7_climbing⟩
  · exact ⟨_, am_k_X7_fromHome⟩
  · exact ⟨_, am_k_X7_isNever⟩
  · exact ⟨_, am_k_X7_pulling⟩
  · exact ⟨_, am_k_X7_laddersBetween⟩
  · exact ⟨_, am_k_X7_walking⟩
  · exact ⟨_, am_k_X7_laddersForAll⟩
theorem am_kk_80 : ∀ m, 80 ≤ m → m < 120 → ∃ x, am_ckm m x = true := by
  intro m h1 h2
  have h9 : m = 80 ∨ m = 81 ∨ m = 82 ∨ m = 83 ∨ m = 84 ∨ m = 85 ∨ m = 86 ∨ m = 87 ∨ m = 88 ∨ m = 89 ∨ m = 90 ∨ m = 91 ∨ m = 92 ∨ m = 93 ∨ m = 94 ∨ m = 95 ∨ m = 96 ∨ m = 97 ∨ m = 98 ∨ m = 99 ∨ m = 100 ∨ m = 101 ∨ m = 102 ∨ m = 103 ∨ m = 104 ∨ m = 105 ∨ m = 106 ∨ m = 107 ∨ m = 108 ∨ m = 109 ∨ m = 110 ∨ m = 111 ∨ m = 112 ∨ m = 113 ∨ m = 114 ∨ m = 115 ∨ m = 116 ∨ m = 117 ∨ m = 118 ∨ m = 119 := by omega
  rcases h9 with rfl | rfl | rfl | rfl | rfl | rfl | rfl | rfl | rfl | rfl | rfl | rfl | rfl | rfl | rfl | rfl | rfl | rfl | rfl | rfl | rfl | rfl | rfl | rfl | rfl | rfl | rfl | rfl | rfl | rfl | rfl | rfl | rfl | rfl | rfl | rfl | rfl | rfl | rfl | rfl
  · exact ⟨_, am_k_X7_joinTrees⟩
  · exact ⟨_, am_k_X7_chargeLadders⟩
  · exact ⟨_, am_k_X7_orNone⟩
  · exact ⟨_, am_k_X7_spread⟩
  · exact ⟨_, am_k_X7_settle⟩
  · exact ⟨_, am_k_X7_shutting⟩
  · exact ⟨_, am_k_X7_findsWay⟩
  · exact ⟨_, am_k_X7_hasRoom⟩
  · exact ⟨_, am_k_X7_fillWay⟩
  · exact ⟨_, am_k_X7_wayOf⟩
  · exact ⟨_, am_k_X8_init⟩
  · exact ⟨_, am_k_X8_ofCells⟩
  · exact ⟨_, am_k_X8_ofTops⟩
  · exact ⟨_, am_k_X8_start⟩
  · exact ⟨_, am_k_X8_join⟩
  · exact ⟨_, am_k_X8_areTogether⟩
  · exact ⟨_, am_k_X8_nodesWith⟩
  · exact ⟨_, am_k_X8_gain⟩
  · exact ⟨_, am_k_X8_mostNodes⟩
  · exact ⟨_, am_k_X8_mostEdges⟩
  · exact ⟨_, am_k_X8_nodesOfOneEdge⟩
  · exact ⟨_, am_k_X9_init⟩
  · exact ⟨_, am_k_X9_reads⟩
  · exact ⟨_, am_k_X9_doesFit⟩
  · exact ⟨_, am_k_X9_highIn⟩
  · exact ⟨_, am_k_X9_firstFit⟩
  · exact ⟨_, am_k_X9_bestYear⟩
  · exact ⟨_, am_k_X9_greatestPart⟩
  · exact ⟨_, am_k_X10_init⟩
  · exact ⟨_, am_k_X10_hasRoom⟩
  · exact ⟨_, am_k_X10_put⟩
  · exact ⟨_, am_k_X10_cut⟩
  · exact ⟨_, am_k_X10_useUp⟩
  · exact ⟨_, am_k_X10_startText⟩
  · exact ⟨_, am_k_X10_endOfThing⟩
  · exact ⟨_, am_k_X10_thingOf⟩
  · exact ⟨_, am_k_X10_number⟩
  · exact ⟨_, am_k_X10_sign⟩
  · exact ⟨_, am_k_X10_countyWord⟩
  · exact ⟨_, am_k_X10_lawWord⟩
theorem am_kk_120 : ∀ m, 120 ≤ m → m < 160 → ∃ x, am_ckm m x = true := by
  intro m h1 h2
  have h9 : m = 120 ∨ m = 121 ∨ m = 122 ∨ m = 123 ∨ m = 124 ∨ m = 125 ∨ m = 126 ∨ m = 127 ∨ m = 128 ∨ m = 129 ∨ m = 130 ∨ m = 131 ∨ m = 132 ∨ m = 133 ∨ m = 134 ∨ m = 135 ∨ m = 136 ∨ m = 137 ∨ m = 138 ∨ m = 139 ∨ m = 140 ∨ m = 141 ∨ m = 142 ∨ m = 143 ∨ m = 144 ∨ m = 145 ∨ m = 146 ∨ m = 147 ∨ m = 148 ∨ m = 149 ∨ m = 150 ∨ m = 151 ∨ m = 152 ∨ m = 153 ∨ m = 154 ∨ m = 155 ∨ m = 156 ∨ m = 157 ∨ m = 158 ∨ m = 159 := by omega
  rcases h9 with rfl | rfl | rfl | rfl | rfl | rfl | rfl | rfl | rfl | rfl | rfl | rfl | rfl | rfl | rfl | rfl | rfl | rfl | rfl | rfl | rfl | rfl | rfl | rfl | rfl | rfl | rfl | rfl | rfl | rfl | rfl | rfl | rfl | rfl | rfl | rfl | rfl | rfl | rfl | rfl
  · exact ⟨_, am_k_X10_isWord⟩
  · exact ⟨_, am_k_X10_isLetter⟩
  · exact ⟨_, am_k_X10_isDigit⟩
  · exact ⟨_, am_k_X10_thing⟩
  · exact ⟨_, am_k_X10_isAtEnd⟩
  · exact ⟨_, am_k_X10_next⟩
  · exact ⟨_, am_k_X10_takes⟩
  · exact ⟨_, am_k_X10_takesNumber⟩
  · exact ⟨_, am_k_X10_takesBorderFrom⟩
  · exact ⟨_, am_k_X10_refuses⟩
  · exact ⟨_, am_k_X11_init⟩
  · exact ⟨_, am_k_X11_feed⟩
  · exact ⟨_, am_k_X11_end⟩
  · exact ⟨_, am_k_X11_county⟩
  · exact ⟨_, am_k_X11_law⟩
  · exact ⟨_, am_k_X11_fault⟩
  · exact ⟨_, am_k_X11_border⟩
  · exact ⟨_, am_k_X11_between⟩
  · exact ⟨_, am_k_X11_family⟩
  · exact ⟨_, am_k_X11_count⟩
  · exact ⟨_, am_k_X11_years⟩
  · exact ⟨_, am_k_X11_raise⟩
  · exact ⟨_, am_k_X11_pull⟩
  · exact ⟨_, am_k_X11_gate⟩
  · exact ⟨_, am_k_X11_string⟩
  · exact ⟨_, am_k_X11_again⟩
  · exact ⟨_, am_k_X11_forgive⟩
  · exact ⟨_, am_k_X11_move⟩
  · exact ⟨_, am_k_X11_learn⟩
  · exact ⟨_, am_k_X11_open⟩
  · exact ⟨_, am_k_X11_far⟩
  · exact ⟨_, am_k_X11_meet⟩
  · exact ⟨_, am_k_X11_halfway⟩
  · exact ⟨_, am_k_X11_sees⟩
  · exact ⟨_, am_k_X11_waves⟩
  · exact ⟨_, am_k_X11_hidden⟩
  · exact ⟨_, am_k_X11_loses⟩
  · exact ⟨_, am_k_X11_pairs⟩
  · exact ⟨_, am_k_X11_rests⟩
  · exact ⟨_, am_k_X11_odds⟩
theorem am_kk_160 : ∀ m, 160 ≤ m → m < 200 → ∃ x, am_ckm m x = true := by
  intro m h1 h2
  have h9 : m = 160 ∨ m = 161 ∨ m = 162 ∨ m = 163 ∨ m = 164 ∨ m = 165 ∨ m = 166 ∨ m = 167 ∨ m = 168 ∨ m = 169 ∨ m = 170 ∨ m = 171 ∨ m = 172 ∨ m = 173 ∨ m = 174 ∨ m = 175 ∨ m = 176 ∨ m = 177 ∨ m = 178 ∨ m = 179 ∨ m = 180 ∨ m = 181 ∨ m = 182 ∨ m = 183 ∨ m = 184 ∨ m = 185 ∨ m = 186 ∨ m = 187 ∨ m = 188 ∨ m = 189 ∨ m = 190 ∨ m = 191 ∨ m = 192 ∨ m = 193 ∨ m = 194 ∨ m = 195 ∨ m = 196 ∨ m = 197 ∨ m = 198 ∨ m = 199 := by omega
  rcases h9 with rfl | rfl | rfl | rfl | rfl | rfl | rfl | rfl | rfl | rfl | rfl | rfl | rfl | rfl | rfl | rfl | rfl | rfl | rfl | rfl | rfl | rfl | rfl | rfl | rfl | rfl | rfl | rfl | rfl | rfl | rfl | rfl | rfl | rfl | rfl | rfl | rfl | rfl | rfl | rfl
  · exact ⟨_, am_k_X11_sorest⟩
  · exact ⟨_, am_k_X11_twins⟩
  · exact ⟨_, am_k_X11_pulls⟩
  · exact ⟨_, am_k_X11_lowest⟩
  · exact ⟨_, am_k_X11_closes⟩
  · exact ⟨_, am_k_X11_lands⟩
  · exact ⟨_, am_k_X11_wide⟩
  · exact ⟨_, am_k_X11_land⟩
  · exact ⟨_, am_k_X11_gaps⟩
  · exact ⟨_, am_k_X11_all⟩
  · exact ⟨_, am_k_X11_reach⟩
  · exact ⟨_, am_k_X11_ladders⟩
  · exact ⟨_, am_k_X11_one⟩
  · exact ⟨_, am_k_X11_walk⟩
  · exact ⟨_, am_k_X11_hangs⟩
  · exact ⟨_, am_k_X11_ends⟩
  · exact ⟨_, am_k_X11_seen⟩
  · exact ⟨_, am_k_X11_ask⟩
  · exact ⟨_, am_k_X11_oldest⟩
  · exact ⟨_, am_k_X11_highest⟩
  · exact ⟨_, am_k_X11_ahead⟩
  · exact ⟨_, am_k_X11_trial⟩
  · exact ⟨_, am_k_X11_span⟩
  · exact ⟨_, am_k_X11_led⟩
  · exact ⟨_, am_k_X11_log⟩
  · exact ⟨_, am_k_X11_seed⟩
  · exact ⟨_, am_k_X11_undo⟩
  · exact ⟨_, am_k_X11_image⟩
  · exact ⟨_, am_k_X11_back⟩
  · exact ⟨_, am_k_X11_needCell⟩
  · exact ⟨_, am_k_X11_needCorner⟩
  · exact ⟨_, am_k_X11_needBorder⟩
  · exact ⟨_, am_k_X11_needFamily⟩
  · exact ⟨_, am_k_X11_needTwoFamilies⟩
  · exact ⟨_, am_k_X11_needHeight⟩
  · exact ⟨_, am_k_X11_needYears⟩
  · exact ⟨_, am_k_X11_needFence⟩
  · exact ⟨_, am_k_X11_rememberAct⟩
  · exact ⟨_, am_k_X11_waysOf⟩
  · exact ⟨_, am_k_X11_bestPull⟩
theorem am_kk_200 : ∀ m, 200 ≤ m → m < 240 → ∃ x, am_ckm m x = true := by
  intro m h1 h2
  have h9 : m = 200 ∨ m = 201 ∨ m = 202 ∨ m = 203 ∨ m = 204 ∨ m = 205 ∨ m = 206 ∨ m = 207 ∨ m = 208 ∨ m = 209 ∨ m = 210 ∨ m = 211 ∨ m = 212 ∨ m = 213 ∨ m = 214 ∨ m = 215 ∨ m = 216 ∨ m = 217 ∨ m = 218 ∨ m = 219 ∨ m = 220 ∨ m = 221 ∨ m = 222 ∨ m = 223 ∨ m = 224 ∨ m = 225 ∨ m = 226 ∨ m = 227 ∨ m = 228 ∨ m = 229 ∨ m = 230 ∨ m = 231 ∨ m = 232 ∨ m = 233 ∨ m = 234 ∨ m = 235 ∨ m = 236 ∨ m = 237 ∨ m = 238 ∨ m = 239 := by omega
  rcases h9 with rfl | rfl | rfl | rfl | rfl | rfl | rfl | rfl | rfl | rfl | rfl | rfl | rfl | rfl | rfl | rfl | rfl | rfl | rfl | rfl | rfl | rfl | rfl | rfl | rfl | rfl | rfl | rfl | rfl | rfl | rfl | rfl | rfl | rfl | rfl | rfl | rfl | rfl | rfl | rfl
  · exact ⟨_, am_k_X11_isWayBetween⟩
  · exact ⟨_, am_k_X11_areHomesTogether⟩
  · exact ⟨_, am_k_X12_thrown⟩
  · exact ⟨_, am_k_X12_throwsIf⟩
  · exact ⟨_, am_k_X12_in⟩
  · exact ⟨_, am_k_X12_has⟩
  · exact ⟨_, am_k_X12_init⟩
  · exact ⟨_, am_k_X12_image⟩
  · exact ⟨_, am_k_X12_back⟩
  · exact ⟨_, am_k_X12_remembers⟩
  · exact ⟨_, am_k_X12_undo⟩
  · exact ⟨_, am_k_X12_keepsAll⟩
  · exact ⟨_, am_k_X12_bringsBack⟩
  · exact ⟨_, am_k_X12_families⟩
  · exact ⟨_, am_k_X12_at⟩
  · exact ⟨_, am_k_X12_of⟩
  · exact ⟨_, am_k_X12_hasFence⟩
  · exact ⟨_, am_k_X12_familyAt⟩
  · exact ⟨_, am_k_X12_ofFamily⟩
  · exact ⟨_, am_k_X12_isAcross⟩
  · exact ⟨_, am_k_X12_lessOf⟩
  · exact ⟨_, am_k_X12_greaterOf⟩
  · exact ⟨_, am_k_X12_sideOf⟩
  · exact ⟨_, am_k_X12_otherOf⟩
  · exact ⟨_, am_k_X12_borderOf⟩
  · exact ⟨_, am_k_X12_noCell⟩
  · exact ⟨_, am_k_X12_noBorder⟩
  · exact ⟨_, am_k_X12_noHeight⟩
  · exact ⟨_, am_k_X12_noFamily⟩
  · exact ⟨_, am_k_X12_drawn⟩
  · exact ⟨_, am_k_X12_isFence⟩
  · exact ⟨_, am_k_X12_isGone⟩
  · exact ⟨_, am_k_X12_feed⟩
  · exact ⟨_, am_k_X12_end⟩
  · exact ⟨_, am_k_X12_isAt⟩
  · exact ⟨_, am_k_X12_blanks⟩
  · exact ⟨_, am_k_X12_letters⟩
  · exact ⟨_, am_k_X12_isWord⟩
  · exact ⟨_, am_k_X12_passes⟩
  · exact ⟨_, am_k_X12_sign⟩
theorem am_kk_240 : ∀ m, 240 ≤ m → m < 280 → ∃ x, am_ckm m x = true := by
  intro m h1 h2
  have h9 : m = 240 ∨ m = 241 ∨ m = 242 ∨ m = 243 ∨ m = 244 ∨ m = 245 ∨ m = 246 ∨ m = 247 ∨ m = 248 ∨ m = 249 ∨ m = 250 ∨ m = 251 ∨ m = 252 ∨ m = 253 ∨ m = 254 ∨ m = 255 ∨ m = 256 ∨ m = 257 ∨ m = 258 ∨ m = 259 ∨ m = 260 ∨ m = 261 ∨ m = 262 ∨ m = 263 ∨ m = 264 ∨ m = 265 ∨ m = 266 ∨ m = 267 ∨ m = 268 ∨ m = 269 ∨ m = 270 ∨ m = 271 ∨ m = 272 ∨ m = 273 ∨ m = 274 ∨ m = 275 ∨ m = 276 ∨ m = 277 ∨ m = 278 ∨ m = 279 := by omega
  rcases h9 with rfl | rfl | rfl | rfl | rfl | rfl | rfl | rfl | rfl | rfl | rfl | rfl | rfl | rfl | rfl | rfl | rfl | rfl | rfl | rfl | rfl | rfl | rfl | rfl | rfl | rfl | rfl | rfl | rfl | rfl | rfl | rfl | rfl | rfl | rfl | rfl | rfl | rfl | rfl | rfl
  · exact ⟨_, am_k_X12_number⟩
  · exact ⟨_, am_k_X12_behind⟩
  · exact ⟨_, am_k_X12_told⟩
  · exact ⟨_, am_k_X12_fault⟩
  · exact ⟨_, am_k_X12_uses⟩
  · exact ⟨_, am_k_X12_readNumber⟩
  · exact ⟨_, am_k_X12_readFence⟩
  · exact ⟨_, am_k_X12_readRow⟩
  · exact ⟨_, am_k_X12_readFamily⟩
  · exact ⟨_, am_k_X12_readCountyLine⟩
  · exact ⟨_, am_k_X12_emits⟩
  · exact ⟨_, am_k_X12_wordOfPart⟩
  · exact ⟨_, am_k_X12_readPart⟩
  · exact ⟨_, am_k_X12_readSum⟩
  · exact ⟨_, am_k_X12_readTag⟩
  · exact ⟨_, am_k_X12_readAtom⟩
  · exact ⟨_, am_k_X12_readAllOf⟩
  · exact ⟨_, am_k_X12_readCond⟩
  · exact ⟨_, am_k_X12_readLawLine⟩
  · exact ⟨_, am_k_X12_readLine⟩
  · exact ⟨_, am_k_X12_readAll⟩
  · exact ⟨_, am_k_X12_county⟩
  · exact ⟨_, am_k_X12_law⟩
  · exact ⟨_, am_k_X12_factOf⟩
  · exact ⟨_, am_k_X12_holdsLine⟩
  · exact ⟨_, am_k_X12_sumOf⟩
  · exact ⟨_, am_k_X12_growsBy⟩
  · exact ⟨_, am_k_X12_soresBy⟩
  · exact ⟨_, am_k_X12_border⟩
  · exact ⟨_, am_k_X12_between⟩
  · exact ⟨_, am_k_X12_tells⟩
  · exact ⟨_, am_k_X12_grows⟩
  · exact ⟨_, am_k_X12_soresAt⟩
  · exact ⟨_, am_k_X12_quarrels⟩
  · exact ⟨_, am_k_X12_oneYear⟩
  · exact ⟨_, am_k_X12_goesOn⟩
  · exact ⟨_, am_k_X12_years⟩
  · exact ⟨_, am_k_X12_sumOfFences⟩
  · exact ⟨_, am_k_X12_raise⟩
  · exact ⟨_, am_k_X12_cannot⟩
theorem am_kk_280 : ∀ m, 280 ≤ m → m < 320 → ∃ x, am_ckm m x = true := by
  intro m h1 h2
  have h9 : m = 280 ∨ m = 281 ∨ m = 282 ∨ m = 283 ∨ m = 284 ∨ m = 285 ∨ m = 286 ∨ m = 287 ∨ m = 288 ∨ m = 289 ∨ m = 290 ∨ m = 291 ∨ m = 292 ∨ m = 293 ∨ m = 294 ∨ m = 295 ∨ m = 296 ∨ m = 297 ∨ m = 298 ∨ m = 299 ∨ m = 300 ∨ m = 301 ∨ m = 302 ∨ m = 303 ∨ m = 304 ∨ m = 305 ∨ m = 306 ∨ m = 307 ∨ m = 308 ∨ m = 309 ∨ m = 310 ∨ m = 311 ∨ m = 312 ∨ m = 313 ∨ m = 314 ∨ m = 315 ∨ m = 316 ∨ m = 317 ∨ m = 318 ∨ m = 319 := by omega
  rcases h9 with rfl | rfl | rfl | rfl | rfl | rfl | rfl | rfl | rfl | rfl | rfl | rfl | rfl | rfl | rfl | rfl | rfl | rfl | rfl | rfl | rfl | rfl | rfl | rfl | rfl | rfl | rfl | rfl | rfl | rfl | rfl | rfl | rfl | rfl | rfl | rfl | rfl | rfl | rfl | rfl
  · exact ⟨_, am_k_X12_pull⟩
  · exact ⟨_, am_k_X12_isNow⟩
  · exact ⟨_, am_k_X12_gate⟩
  · exact ⟨_, am_k_X12_string⟩
  · exact ⟨_, am_k_X12_again⟩
  · exact ⟨_, am_k_X12_familyNow⟩
  · exact ⟨_, am_k_X12_forgive⟩
  · exact ⟨_, am_k_X12_move⟩
  · exact ⟨_, am_k_X12_learn⟩
  · exact ⟨_, am_k_X12_isOpen⟩
  · exact ⟨_, am_k_X12_costOf⟩
  · exact ⟨_, am_k_X12_addsBy⟩
  · exact ⟨_, am_k_X12_on⟩
  · exact ⟨_, am_k_X12_flows⟩
  · exact ⟨_, am_k_X12_from⟩
  · exact ⟨_, am_k_X12_manyReached⟩
  · exact ⟨_, am_k_X12_waysOf⟩
  · exact ⟨_, am_k_X12_farOf⟩
  · exact ⟨_, am_k_X12_towerOf⟩
  · exact ⟨_, am_k_X12_gapOf⟩
  · exact ⟨_, am_k_X12_nearestTo⟩
  · exact ⟨_, am_k_X12_shareOf⟩
  · exact ⟨_, am_k_X12_givesOf⟩
  · exact ⟨_, am_k_X12_family⟩
  · exact ⟨_, am_k_X12_open⟩
  · exact ⟨_, am_k_X12_orNone⟩
  · exact ⟨_, am_k_X12_far⟩
  · exact ⟨_, am_k_X12_noTwo⟩
  · exact ⟨_, am_k_X12_canMeet⟩
  · exact ⟨_, am_k_X12_meet⟩
  · exact ⟨_, am_k_X12_halfway⟩
  · exact ⟨_, am_k_X12_seesOver⟩
  · exact ⟨_, am_k_X12_seesCell⟩
  · exact ⟨_, am_k_X12_sees⟩
  · exact ⟨_, am_k_X12_waves⟩
  · exact ⟨_, am_k_X12_hidden⟩
  · exact ⟨_, am_k_X12_noCells⟩
  · exact ⟨_, am_k_X12_pulls⟩
  · exact ⟨_, am_k_X12_lowest⟩
  · exact ⟨_, am_k_X12_one⟩
theorem am_kk_320 : ∀ m, 320 ≤ m → m < 360 → ∃ x, am_ckm m x = true := by
  intro m h1 h2
  have h9 : m = 320 ∨ m = 321 ∨ m = 322 ∨ m = 323 ∨ m = 324 ∨ m = 325 ∨ m = 326 ∨ m = 327 ∨ m = 328 ∨ m = 329 ∨ m = 330 ∨ m = 331 ∨ m = 332 ∨ m = 333 ∨ m = 334 ∨ m = 335 ∨ m = 336 ∨ m = 337 ∨ m = 338 ∨ m = 339 ∨ m = 340 ∨ m = 341 ∨ m = 342 ∨ m = 343 ∨ m = 344 ∨ m = 345 ∨ m = 346 ∨ m = 347 ∨ m = 348 ∨ m = 349 ∨ m = 350 ∨ m = 351 ∨ m = 352 ∨ m = 353 ∨ m = 354 ∨ m = 355 ∨ m = 356 ∨ m = 357 ∨ m = 358 ∨ m = 359 := by omega
  rcases h9 with rfl | rfl | rfl | rfl | rfl | rfl | rfl | rfl | rfl | rfl | rfl | rfl | rfl | rfl | rfl | rfl | rfl | rfl | rfl | rfl | rfl | rfl | rfl | rfl | rfl | rfl | rfl | rfl | rfl | rfl | rfl | rfl | rfl | rfl | rfl | rfl | rfl | rfl | rfl | rfl
  · exact ⟨_, am_k_X12_mayGo⟩
  · exact ⟨_, am_k_X12_goesOnce⟩
  · exact ⟨_, am_k_X12_closes⟩
  · exact ⟨_, am_k_X12_laysLands⟩
  · exact ⟨_, am_k_X12_sizeOf⟩
  · exact ⟨_, am_k_X12_wrongHeight⟩
  · exact ⟨_, am_k_X12_lands⟩
  · exact ⟨_, am_k_X12_wide⟩
  · exact ⟨_, am_k_X12_land⟩
  · exact ⟨_, am_k_X12_gaps⟩
  · exact ⟨_, am_k_X12_allMeet⟩
  · exact ⟨_, am_k_X12_all⟩
  · exact ⟨_, am_k_X12_reach⟩
  · exact ⟨_, am_k_X12_togetherAt⟩
  · exact ⟨_, am_k_X12_joins⟩
  · exact ⟨_, am_k_X12_ladders⟩
  · exact ⟨_, am_k_X12_cornerAt⟩
  · exact ⟨_, am_k_X12_beginOf⟩
  · exact ⟨_, am_k_X12_endOf⟩
  · exact ⟨_, am_k_X12_isTop⟩
  · exact ⟨_, am_k_X12_walks⟩
  · exact ⟨_, am_k_X12_walk⟩
  · exact ⟨_, am_k_X12_hangs⟩
  · exact ⟨_, am_k_X12_ends⟩
  · exact ⟨_, am_k_X12_isSeen⟩
  · exact ⟨_, am_k_X12_highIn⟩
  · exact ⟨_, am_k_X12_fits⟩
  · exact ⟨_, am_k_X12_seen⟩
  · exact ⟨_, am_k_X12_partBy⟩
  · exact ⟨_, am_k_X12_ask⟩
  · exact ⟨_, am_k_X12_loses⟩
  · exact ⟨_, am_k_X12_laysWorth⟩
  · exact ⟨_, am_k_X12_firstOf⟩
  · exact ⟨_, am_k_X12_pairedBy⟩
  · exact ⟨_, am_k_X12_laysPairs⟩
  · exact ⟨_, am_k_X12_pairs⟩
  · exact ⟨_, am_k_X12_neighbourHas⟩
  · exact ⟨_, am_k_X12_rests⟩
  · exact ⟨_, am_k_X12_odds⟩
  · exact ⟨_, am_k_X12_mostOf⟩
theorem am_kk_360 : ∀ m, 360 ≤ m → m < 400 → ∃ x, am_ckm m x = true := by
  intro m h1 h2
  have h9 : m = 360 ∨ m = 361 ∨ m = 362 ∨ m = 363 ∨ m = 364 ∨ m = 365 ∨ m = 366 ∨ m = 367 ∨ m = 368 ∨ m = 369 ∨ m = 370 ∨ m = 371 ∨ m = 372 ∨ m = 373 ∨ m = 374 ∨ m = 375 ∨ m = 376 ∨ m = 377 ∨ m = 378 ∨ m = 379 ∨ m = 380 ∨ m = 381 ∨ m = 382 ∨ m = 383 ∨ m = 384 ∨ m = 385 ∨ m = 386 ∨ m = 387 ∨ m = 388 ∨ m = 389 ∨ m = 390 ∨ m = 391 ∨ m = 392 ∨ m = 393 ∨ m = 394 ∨ m = 395 ∨ m = 396 ∨ m = 397 ∨ m = 398 ∨ m = 399 := by omega
  rcases h9 with rfl | rfl | rfl | rfl | rfl | rfl | rfl | rfl | rfl | rfl | rfl | rfl | rfl | rfl | rfl | rfl | rfl | rfl | rfl | rfl | rfl | rfl | rfl | rfl | rfl | rfl | rfl | rfl | rfl | rfl | rfl | rfl | rfl | rfl | rfl | rfl | rfl | rfl | rfl | rfl
  · exact ⟨_, am_k_X12_oldest⟩
  · exact ⟨_, am_k_X12_highest⟩
  · exact ⟨_, am_k_X12_sorest⟩
  · exact ⟨_, am_k_X12_twins⟩
  · exact ⟨_, am_k_X12_noAhead⟩
  · exact ⟨_, am_k_X12_ahead⟩
  · exact ⟨_, am_k_X12_trial⟩
  · exact ⟨_, am_k_X12_span⟩
  · exact ⟨_, am_k_X12_ofLog⟩
  · exact ⟨_, am_k_X12_led⟩
  · exact ⟨_, am_k_X12_log⟩
  · exact ⟨_, am_k_X12_seed⟩
  · exact ⟨_, am_k_X12_count⟩
  · exact ⟨_, am_k_J6_numberOfTrailingZeros_0f7a4⟩
  · exact ⟨_, am_k_J9_abs_0f7a4⟩
  · exact ⟨_, am_k_J9_max_7cf53⟩
  · exact ⟨_, am_k_J9_min_7cf53⟩
  · exact ⟨_, am_k_J0_length_8abf5⟩
  · exact ⟨_, am_k_J0_charAt_5068e⟩
  · exact ⟨_, am_k_J0_coder_7d493⟩
  · exact ⟨_, am_k_J0_isLatin1_aae02⟩
  · exact ⟨_, am_k_J0_checkIndex_df160⟩
  · exact ⟨_, am_k_J1_charAt_3b067⟩
  · exact ⟨_, am_k_J7_fill_53178⟩
  · exact ⟨_, am_k_J7_copyOf_59c91⟩
  · exact ⟨_, am_k_J3_checkIndex_8e157⟩
  · exact ⟨_, am_k_L_county⟩
  · exact ⟨_, am_k_L_law⟩
  · exact ⟨_, am_k_L_border⟩
  · exact ⟨_, am_k_L_between⟩
  · exact ⟨_, am_k_L_family⟩
  · exact ⟨_, am_k_L_years⟩
  · exact ⟨_, am_k_L_raise⟩
  · exact ⟨_, am_k_L_pull⟩
  · exact ⟨_, am_k_L_gate⟩
  · exact ⟨_, am_k_L_string⟩
  · exact ⟨_, am_k_L_again⟩
  · exact ⟨_, am_k_L_forgive⟩
  · exact ⟨_, am_k_L_move⟩
  · exact ⟨_, am_k_L_learn⟩
theorem am_kk_400 : ∀ m, 400 ≤ m → m < 429 → ∃ x, am_ckm m x = true := by
  intro m h1 h2
  have h9 : m = 400 ∨ m = 401 ∨ m = 402 ∨ m = 403 ∨ m = 404 ∨ m = 405 ∨ m = 406 ∨ m = 407 ∨ m = 408 ∨ m = 409 ∨ m = 410 ∨ m = 411 ∨ m = 412 ∨ m = 413 ∨ m = 414 ∨ m = 415 ∨ m = 416 ∨ m = 417 ∨ m = 418 ∨ m = 419 ∨ m = 420 ∨ m = 421 ∨ m = 422 ∨ m = 423 ∨ m = 424 ∨ m = 425 ∨ m = 426 ∨ m = 427 ∨ m = 428 := by omega
  rcases h9 with rfl | rfl | rfl | rfl | rfl | rfl | rfl | rfl | rfl | rfl | rfl | rfl | rfl | rfl | rfl | rfl | rfl | rfl | rfl | rfl | rfl | rfl | rfl | rfl | rfl | rfl | rfl | rfl | rfl
  · exact ⟨_, am_k_L_open⟩
  · exact ⟨_, am_k_L_far⟩
  · exact ⟨_, am_k_L_meet⟩
  · exact ⟨_, am_k_L_halfway⟩
  · exact ⟨_, am_k_L_sees⟩
  · exact ⟨_, am_k_L_pulls⟩
  · exact ⟨_, am_k_L_lowest⟩
  · exact ⟨_, am_k_L_closes⟩
  · exact ⟨_, am_k_L_lands⟩
  · exact ⟨_, am_k_L_wide⟩
  · exact ⟨_, am_k_L_land⟩
  · exact ⟨_, am_k_L_gaps⟩
  · exact ⟨_, am_k_L_all⟩
  · exact ⟨_, am_k_L_one⟩
  · exact ⟨_, am_k_L_walk⟩
  · exact ⟨_, am_k_L_hangs⟩
  · exact ⟨_, am_k_L_ends⟩
  · exact ⟨_, am_k_L_seen⟩
  · exact ⟨_, am_k_L_ask⟩
  · exact ⟨_, am_k_L_loses⟩
  · exact ⟨_, am_k_L_pairs⟩
  · exact ⟨_, am_k_L_rests⟩
  · exact ⟨_, am_k_L_odds⟩
  · exact ⟨_, am_k_L_ahead⟩
  · exact ⟨_, am_k_L_trial⟩
  · exact ⟨_, am_k_L_span⟩
  · exact ⟨_, am_k_L_led⟩
  · exact ⟨_, am_k_L_log⟩
  · exact ⟨_, am_k_L_law_⟩
theorem am_kk_ok : am_kk := by
  intro m
  by_cases hm : m < 429
  · refine Or.inr ?_
    have hp : plainFor (am_mt m).1 = true := List.all_eq_true.mp am_pf_all m (List.mem_range.mpr hm)
    rcases Nat.lt_or_ge m 40 with h0 | h0
    · exact ⟨_, (am_kk_0 m (Nat.zero_le _) h0).choose_spec, hp⟩
    rcases Nat.lt_or_ge m 80 with h40 | h40
    · exact ⟨_, (am_kk_40 m h0 h40).choose_spec, hp⟩
    rcases Nat.lt_or_ge m 120 with h80 | h80
    · exact ⟨_, (am_kk_80 m h40 h80).choose_spec, hp⟩
    rcases Nat.lt_or_ge m 160 with h120 | h120
    · exact ⟨_, (am_kk_120 m h80 h120).choose_spec, hp⟩
    rcases Nat.lt_or_ge m 200 with h160 | h160
    · exact ⟨_, (am_kk_160 m h120 h160).choose_spec, hp⟩
    rcases Nat.lt_or_ge m 240 with h200 | h200
    · exact ⟨_, (am_kk_200 m h160 h200).choose_spec, hp⟩
    rcases Nat.lt_or_ge m 280 with h240 | h240
    · exact ⟨_, (am_kk_240 m h200 h240).choose_spec, hp⟩
    rcases Nat.lt_or_ge m 320 with h280 | h280
    · exact ⟨_, (am_kk_280 m h240 h280).choose_spec, hp⟩
    rcases Nat.lt_or_ge m 360 with h320 | h320
    · exact ⟨_, (am_kk_320 m h280 h320).choose_spec, hp⟩
    rcases Nat.lt_or_ge m 400 with h360 | h360
    · exact ⟨_, (am_kk_360 m h320 h360).choose_spec, hp⟩
    rcases Nat.lt_or_ge m 429 with h400 | h400
    · exact ⟨_, (am_kk_400 m h360 h400).choose_spec, hp⟩
    exact absurd hm (by omega)
  · refine Or.inl ?_
    have : am_at m = ([], [], 0) := by
      unfold am_at
      rw [List.getD_eq_getElem?_getD, List.getElem?_eq_none (by rw [am_len_prog]; omega)]
      rfl
    rw [this]
