set_option maxRecDepth 100000 in
theorem lkF_X9_12 : Cond.fieldLink "SnowTracks" 12 RX9 (TX9 3).2.1 (TX9 3).2.2.1 ∈ lw_tbl := inT_1 _ (List.mem_of_getElem? (i := 238) rfl)
set_option maxRecDepth 100000 in
theorem lkF_X9_18 : Cond.fieldLink "SnowTracks" 18 RX9 (TX9 5).2.1 (TX9 5).2.2.1 ∈ lw_tbl := inT_2 _ (List.mem_of_getElem? (i := 0) rfl)
set_option maxRecDepth 100000 in
theorem lkF_X9_22 : Cond.fieldLink "SnowTracks" 22 RX9 (TX9 6).2.1 (TX9 6).2.2.1 ∈ lw_tbl := inT_2 _ (List.mem_of_getElem? (i := 1) rfl)
set_option maxRecDepth 100000 in
theorem lkF_X9_28 : Cond.fieldLink "SnowTracks" 28 RX9 (TX9 7).2.1 (TX9 7).2.2.1 ∈ lw_tbl := inT_2 _ (List.mem_of_getElem? (i := 2) rfl)
set_option maxRecDepth 100000 in
theorem lkF_X9_32 : Cond.fieldLink "SnowTracks" 32 RX9 (TX9 8).2.1 (TX9 8).2.2.1 ∈ lw_tbl := inT_2 _ (List.mem_of_getElem? (i := 3) rfl)
set_option maxRecDepth 100000 in
theorem lkF_X9_35 : Cond.fieldLink "SnowTracks" 35 RX9 (TX9 9).2.1 (TX9 9).2.2.1 ∈ lw_tbl := inT_2 _ (List.mem_of_getElem? (i := 4) rfl)
set_option maxRecDepth 100000 in
theorem lkF_X9_39 : Cond.fieldLink "SnowTracks" 39 RX9 (TX9 10).2.1 (TX9 10).2.2.1 ∈ lw_tbl := inT_2 _ (List.mem_of_getElem? (i := 5) rfl)
set_option maxRecDepth 100000 in
theorem lkF_X9_45 : Cond.fieldLink "SnowTracks" 45 RX9 (TX9 11).2.1 (TX9 11).2.2.1 ∈ lw_tbl := inT_2 _ (List.mem_of_getElem? (i := 6) rfl)
set_option maxRecDepth 100000 in
theorem lkF_X9_52 : Cond.fieldLink "SnowTracks" 52 RX9 (TX9 12).2.1 (TX9 12).2.2.1 ∈ lw_tbl := inT_2 _ (List.mem_of_getElem? (i := 7) rfl)
set_option maxRecDepth 100000 in
theorem lkF_X9_59 : Cond.fieldLink "SnowTracks" 59 RX9 (TX9 13).2.1 (TX9 13).2.2.1 ∈ lw_tbl := inT_2 _ (List.mem_of_getElem? (i := 8) rfl)
set_option maxRecDepth 100000 in
theorem lkF_X9_66 : Cond.fieldLink "SnowTracks" 66 RX9 (TX9 14).2.1 (TX9 14).2.2.1 ∈ lw_tbl := inT_2 _ (List.mem_of_getElem? (i := 9) rfl)
set_option maxRecDepth 100000 in
theorem lkF_X9_73 : Cond.fieldLink "SnowTracks" 73 RX9 (TX9 15).2.1 (TX9 15).2.2.1 ∈ lw_tbl := inT_2 _ (List.mem_of_getElem? (i := 10) rfl)
set_option maxRecDepth 100000 in
theorem lkF_X9_77 : Cond.fieldLink "SnowTracks" 77 RX9 (TX9 16).2.1 (TX9 16).2.2.1 ∈ lw_tbl := inT_2 _ (List.mem_of_getElem? (i := 11) rfl)
set_option maxRecDepth 100000 in
theorem lkF_X9_80 : Cond.fieldLink "SnowTracks" 80 RX9 (TX9 17).2.1 (TX9 17).2.2.1 ∈ lw_tbl := inT_2 _ (List.mem_of_getElem? (i := 12) rfl)
set_option maxRecDepth 100000 in
theorem lkF_X9_92 : Cond.fieldLink "SnowTracks" 92 RX9 (TX9 0).2.1 (TX9 0).2.2.1 ∈ lw_tbl := inT_1 _ (List.mem_of_getElem? (i := 235) rfl)
set_option maxRecDepth 100000 in
theorem lkF_X9_95 : Cond.fieldLink "SnowTracks" 95 RX9 (TX9 1).2.1 (TX9 1).2.2.1 ∈ lw_tbl := inT_1 _ (List.mem_of_getElem? (i := 236) rfl)
set_option maxRecDepth 100000 in
theorem lkF_X9_98 : Cond.fieldLink "SnowTracks" 98 RX9 (TX9 2).2.1 (TX9 2).2.2.1 ∈ lw_tbl := inT_1 _ (List.mem_of_getElem? (i := 237) rfl)
set_option maxRecDepth 100000 in
theorem lkF_X9_106 : Cond.fieldLink "SnowTracks" 106 RX9 (TX9 4).2.1 (TX9 4).2.2.1 ∈ lw_tbl := inT_1 _ (List.mem_of_getElem? (i := 239) rfl)
set_option maxRecDepth 100000 in
theorem lkF_X9_111 : Cond.fieldLinkNest "SnowTracks" 111 RX7 (TX7 1).2.1 (TX7 1).2.2.1 "SnowTracks" ∈ lw_tbl := inT_1 _ (List.mem_of_getElem? (i := 36) rfl)
set_option maxRecDepth 100000 in
theorem lkF_X9_124 : Cond.fieldLinkNest "SnowTracks" 124 RX7 (TX7 4).2.1 (TX7 4).2.2.1 "SnowTracks" ∈ lw_tbl := inT_1 _ (List.mem_of_getElem? (i := 41) rfl)
set_option maxRecDepth 100000 in
theorem lkF_X9_127 : Cond.fieldLinkNest "SnowTracks" 127 RX7 (TX7 5).2.1 (TX7 5).2.2.1 "SnowTracks" ∈ lw_tbl := inT_1 _ (List.mem_of_getElem? (i := 43) rfl)
set_option maxRecDepth 100000 in
theorem lkF_X9_150 : Cond.fieldLinkNest "SnowTracks" 150 RX8 (TX8 6).2.1 (TX8 6).2.2.1 "SnowTracks" ∈ lw_tbl := inT_2 _ (List.mem_of_getElem? (i := 133) rfl)
set_option maxRecDepth 100000 in
theorem lkF_X9_153 : Cond.fieldLinkNest "SnowTracks" 153 RX8 (TX8 0).2.1 (TX8 0).2.2.1 "SnowTracks" ∈ lw_tbl := inT_2 _ (List.mem_of_getElem? (i := 121) rfl)
set_option maxRecDepth 100000 in
theorem lkF_X9_156 : Cond.fieldLinkNest "SnowTracks" 156 RX8 (TX8 1).2.1 (TX8 1).2.2.1 "SnowTracks" ∈ lw_tbl := inT_2 _ (List.mem_of_getElem? (i := 124) rfl)
set_option maxRecDepth 100000 in
theorem lkF_X9_159 : Cond.fieldLinkNest "SnowTracks" 159 RX8 (TX8 7).2.1 (TX8 7).2.2.1 "SnowTracks" ∈ lw_tbl := inT_2 _ (List.mem_of_getElem? (i := 135) rfl)
set_option maxRecDepth 100000 in
theorem lkF_X9_162 : Cond.fieldLinkNest "SnowTracks" 162 RX8 (TX8 8).2.1 (TX8 8).2.2.1 "SnowTracks" ∈ lw_tbl := inT_2 _ (List.mem_of_getElem? (i := 137) rfl)
set_option maxRecDepth 100000 in
theorem lkF_X9_193 : Cond.fieldLinkNest "SnowTracks" 193 RX2 (TX2 0).2.1 (TX2 0).2.2.1 "SnowTracks" ∈ lw_tbl := inT_1 _ (List.mem_of_getElem? (i := 207) rfl)
set_option maxRecDepth 100000 in
theorem lkF_X9_239 : Cond.fieldLinkNest "SnowTracks" 239 RX8 (TX8 5).2.1 (TX8 5).2.2.1 "SnowTracks" ∈ lw_tbl := inT_2 _ (List.mem_of_getElem? (i := 130) rfl)
set_option maxRecDepth 100000 in
theorem lkF_X9_242 : Cond.fieldLinkNest "SnowTracks" 242 RX8 (TX8 4).2.1 (TX8 4).2.2.1 "SnowTracks" ∈ lw_tbl := inT_2 _ (List.mem_of_getElem? (i := 128) rfl)
set_option maxRecDepth 100000 in
theorem lkF_X9_265 : Cond.fieldLinkNest "SnowTracks" 265 RX3 (TX3 0).2.1 (TX3 0).2.2.1 "SnowTracks" ∈ lw_tbl := inT_1 _ (List.mem_of_getElem? (i := 152) rfl)
set_option maxRecDepth 100000 in
theorem lkF_X9_268 : Cond.fieldLinkNest "SnowTracks" 268 RX3 (TX3 1).2.1 (TX3 1).2.2.1 "SnowTracks" ∈ lw_tbl := inT_1 _ (List.mem_of_getElem? (i := 154) rfl)
set_option maxRecDepth 100000 in
theorem lkF_X9_271 : Cond.fieldLinkNest "SnowTracks" 271 RX3 (TX3 2).2.1 (TX3 2).2.2.1 "SnowTracks" ∈ lw_tbl := inT_1 _ (List.mem_of_getElem? (i := 156) rfl)
set_option maxRecDepth 100000 in
theorem lkF_X9_274 : Cond.fieldLinkNest "SnowTracks" 274 RX3 (TX3 3).2.1 (TX3 3).2.2.1 "SnowTracks" ∈ lw_tbl := inT_1 _ (List.mem_of_getElem? (i := 158) rfl)
set_option maxRecDepth 100000 in
theorem lkF_X9_287 : Cond.fieldLinkNest "SnowTracks" 287 RX2 (TX2 1).2.1 (TX2 1).2.2.1 "SnowTracks" ∈ lw_tbl := inT_1 _ (List.mem_of_getElem? (i := 211) rfl)
set_option maxRecDepth 100000 in
theorem lkF_X9_293 : Cond.fieldLinkNest "SnowTracks" 293 RX2 (TX2 2).2.1 (TX2 2).2.2.1 "SnowTracks" ∈ lw_tbl := inT_1 _ (List.mem_of_getElem? (i := 215) rfl)
set_option maxRecDepth 100000 in
theorem lkF_X9_296 : Cond.fieldLinkNest "SnowTracks" 296 RX2 (TX2 3).2.1 (TX2 3).2.2.1 "SnowTracks" ∈ lw_tbl := inT_1 _ (List.mem_of_getElem? (i := 219) rfl)
set_option maxRecDepth 100000 in
theorem lkF_X9_299 : Cond.fieldLinkNest "SnowTracks" 299 RX2 (TX2 4).2.1 (TX2 4).2.2.1 "SnowTracks" ∈ lw_tbl := inT_1 _ (List.mem_of_getElem? (i := 223) rfl)
set_option maxRecDepth 100000 in
theorem lkF_X9_316 : Cond.fieldLinkNest "SnowTracks" 316 RX6 (TX6 3).2.1 (TX6 3).2.2.1 "SnowTracks" ∈ lw_tbl := inT_1 _ (List.mem_of_getElem? (i := 131) rfl)
set_option maxRecDepth 100000 in
theorem lkF_X9_319 : Cond.fieldLinkNest "SnowTracks" 319 RX6 (TX6 4).2.1 (TX6 4).2.2.1 "SnowTracks" ∈ lw_tbl := inT_1 _ (List.mem_of_getElem? (i := 133) rfl)
set_option maxRecDepth 100000 in
theorem lkF_X0_11 : Cond.fieldLink "SnowTracks$ChainSearch" 11 RX0 (TX0 0).2.1 (TX0 0).2.2.1 ∈ lw_tbl := inT_1 _ (List.mem_of_getElem? (i := 103) rfl)
set_option maxRecDepth 100000 in
theorem lkF_X0_17 : Cond.fieldLink "SnowTracks$ChainSearch" 17 RX0 (TX0 1).2.1 (TX0 1).2.2.1 ∈ lw_tbl := inT_1 _ (List.mem_of_getElem? (i := 104) rfl)
set_option maxRecDepth 100000 in
theorem lkF_X0_21 : Cond.fieldLink "SnowTracks$ChainSearch" 21 RX0 (TX0 2).2.1 (TX0 2).2.2.1 ∈ lw_tbl := inT_1 _ (List.mem_of_getElem? (i := 105) rfl)
set_option maxRecDepth 100000 in
theorem lkF_X0_24 : Cond.fieldLink "SnowTracks$ChainSearch" 24 RX0 (TX0 3).2.1 (TX0 3).2.2.1 ∈ lw_tbl := inT_1 _ (List.mem_of_getElem? (i := 106) rfl)
set_option maxRecDepth 100000 in
theorem lkF_X0_28 : Cond.fieldLink "SnowTracks$ChainSearch" 28 RX0 (TX0 4).2.1 (TX0 4).2.2.1 ∈ lw_tbl := inT_1 _ (List.mem_of_getElem? (i := 107) rfl)
set_option maxRecDepth 100000 in
theorem lkF_X0_38 : Cond.fieldLinkNest "SnowTracks$ChainSearch" 38 RX8 (TX8 1).2.1 (TX8 1).2.2.1 "SnowTracks" ∈ lw_tbl := inT_2 _ (List.mem_of_getElem? (i := 123) rfl)
set_option maxRecDepth 100000 in
theorem lkF_X1_9 : Cond.fieldLink "SnowTracks$CoreSearch" 9 RX1 (TX1 0).2.1 (TX1 0).2.2.1 ∈ lw_tbl := inT_1 _ (List.mem_of_getElem? (i := 87) rfl)
set_option maxRecDepth 100000 in
theorem lkF_X1_15 : Cond.fieldLink "SnowTracks$CoreSearch" 15 RX1 (TX1 1).2.1 (TX1 1).2.2.1 ∈ lw_tbl := inT_1 _ (List.mem_of_getElem? (i := 88) rfl)
set_option maxRecDepth 100000 in
theorem lkF_X1_18 : Cond.fieldLinkNest "SnowTracks$CoreSearch" 18 RX4 (TX4 0).2.1 (TX4 0).2.2.1 "SnowTracks" ∈ lw_tbl := inT_1 _ (List.mem_of_getElem? (i := 73) rfl)
set_option maxRecDepth 100000 in
theorem lkF_X1_33 : Cond.fieldLinkNest "SnowTracks$CoreSearch" 33 RX2 (TX2 1).2.1 (TX2 1).2.2.1 "SnowTracks" ∈ lw_tbl := inT_1 _ (List.mem_of_getElem? (i := 209) rfl)
set_option maxRecDepth 100000 in
theorem lkF_X1_39 : Cond.fieldLinkNest "SnowTracks$CoreSearch" 39 RX2 (TX2 2).2.1 (TX2 2).2.2.1 "SnowTracks" ∈ lw_tbl := inT_1 _ (List.mem_of_getElem? (i := 213) rfl)
set_option maxRecDepth 100000 in
theorem lkF_X1_42 : Cond.fieldLinkNest "SnowTracks$CoreSearch" 42 RX2 (TX2 3).2.1 (TX2 3).2.2.1 "SnowTracks" ∈ lw_tbl := inT_1 _ (List.mem_of_getElem? (i := 217) rfl)
set_option maxRecDepth 100000 in
theorem lkF_X1_49 : Cond.fieldLinkNest "SnowTracks$CoreSearch" 49 RX2 (TX2 4).2.1 (TX2 4).2.2.1 "SnowTracks" ∈ lw_tbl := inT_1 _ (List.mem_of_getElem? (i := 221) rfl)
set_option maxRecDepth 100000 in
theorem lkF_X1_52 : Cond.fieldLinkNest "SnowTracks$CoreSearch" 52 RX4 (TX4 1).2.1 (TX4 1).2.2.1 "SnowTracks" ∈ lw_tbl := inT_1 _ (List.mem_of_getElem? (i := 75) rfl)
set_option maxRecDepth 100000 in
theorem lkF_X2_9 : Cond.fieldLink "SnowTracks$Fact" 9 RX2 (TX2 0).2.1 (TX2 0).2.2.1 ∈ lw_tbl := inT_1 _ (List.mem_of_getElem? (i := 206) rfl)
set_option maxRecDepth 100000 in
theorem lkF_X2_15 : Cond.fieldLink "SnowTracks$Fact" 15 RX2 (TX2 1).2.1 (TX2 1).2.2.1 ∈ lw_tbl := inT_1 _ (List.mem_of_getElem? (i := 208) rfl)
set_option maxRecDepth 100000 in
theorem lkF_X2_18 : Cond.fieldLink "SnowTracks$Fact" 18 RX2 (TX2 2).2.1 (TX2 2).2.2.1 ∈ lw_tbl := inT_1 _ (List.mem_of_getElem? (i := 212) rfl)
set_option maxRecDepth 100000 in
theorem lkF_X2_22 : Cond.fieldLink "SnowTracks$Fact" 22 RX2 (TX2 3).2.1 (TX2 3).2.2.1 ∈ lw_tbl := inT_1 _ (List.mem_of_getElem? (i := 216) rfl)
set_option maxRecDepth 100000 in
theorem lkF_X2_26 : Cond.fieldLink "SnowTracks$Fact" 26 RX2 (TX2 4).2.1 (TX2 4).2.2.1 ∈ lw_tbl := inT_1 _ (List.mem_of_getElem? (i := 220) rfl)
set_option maxRecDepth 100000 in
theorem lkF_X3_9 : Cond.fieldLink "SnowTracks$Glance" 9 RX3 (TX3 0).2.1 (TX3 0).2.2.1 ∈ lw_tbl := inT_1 _ (List.mem_of_getElem? (i := 151) rfl)
set_option maxRecDepth 100000 in
theorem lkF_X3_15 : Cond.fieldLink "SnowTracks$Glance" 15 RX3 (TX3 1).2.1 (TX3 1).2.2.1 ∈ lw_tbl := inT_1 _ (List.mem_of_getElem? (i := 153) rfl)
set_option maxRecDepth 100000 in
theorem lkF_X3_18 : Cond.fieldLink "SnowTracks$Glance" 18 RX3 (TX3 2).2.1 (TX3 2).2.2.1 ∈ lw_tbl := inT_1 _ (List.mem_of_getElem? (i := 155) rfl)
set_option maxRecDepth 100000 in
theorem lkF_X3_21 : Cond.fieldLink "SnowTracks$Glance" 21 RX3 (TX3 3).2.1 (TX3 3).2.2.1 ∈ lw_tbl := inT_1 _ (List.mem_of_getElem? (i := 157) rfl)
set_option maxRecDepth 100000 in
theorem lkF_X4_9 : Cond.fieldLink "SnowTracks$Net" 9 RX4 (TX4 0).2.1 (TX4 0).2.2.1 ∈ lw_tbl := inT_1 _ (List.mem_of_getElem? (i := 72) rfl)
set_option maxRecDepth 100000 in
theorem lkF_X4_15 : Cond.fieldLink "SnowTracks$Net" 15 RX4 (TX4 1).2.1 (TX4 1).2.2.1 ∈ lw_tbl := inT_1 _ (List.mem_of_getElem? (i := 74) rfl)
set_option maxRecDepth 100000 in
theorem lkF_X4_36 : Cond.fieldLinkNest "SnowTracks$Net" 36 RX2 (TX2 1).2.1 (TX2 1).2.2.1 "SnowTracks" ∈ lw_tbl := inT_1 _ (List.mem_of_getElem? (i := 210) rfl)
set_option maxRecDepth 100000 in
theorem lkF_X4_41 : Cond.fieldLinkNest "SnowTracks$Net" 41 RX2 (TX2 2).2.1 (TX2 2).2.2.1 "SnowTracks" ∈ lw_tbl := inT_1 _ (List.mem_of_getElem? (i := 214) rfl)
set_option maxRecDepth 100000 in
theorem lkF_X4_44 : Cond.fieldLinkNest "SnowTracks$Net" 44 RX2 (TX2 3).2.1 (TX2 3).2.2.1 "SnowTracks" ∈ lw_tbl := inT_1 _ (List.mem_of_getElem? (i := 218) rfl)
set_option maxRecDepth 100000 in
theorem lkF_X4_51 : Cond.fieldLinkNest "SnowTracks$Net" 51 RX2 (TX2 4).2.1 (TX2 4).2.2.1 "SnowTracks" ∈ lw_tbl := inT_1 _ (List.mem_of_getElem? (i := 222) rfl)
set_option maxRecDepth 100000 in
theorem lkF_X5_9 : Cond.fieldLink "SnowTracks$Player" 9 RX5 (TX5 2).2.1 (TX5 2).2.2.1 ∈ lw_tbl := inT_1 _ (List.mem_of_getElem? (i := 182) rfl)
set_option maxRecDepth 100000 in
theorem lkF_X5_15 : Cond.fieldLink "SnowTracks$Player" 15 RX5 (TX5 3).2.1 (TX5 3).2.2.1 ∈ lw_tbl := inT_1 _ (List.mem_of_getElem? (i := 183) rfl)
set_option maxRecDepth 100000 in
theorem lkF_X5_19 : Cond.fieldLink "SnowTracks$Player" 19 RX5 (TX5 4).2.1 (TX5 4).2.2.1 ∈ lw_tbl := inT_1 _ (List.mem_of_getElem? (i := 184) rfl)
set_option maxRecDepth 100000 in
theorem lkF_X5_22 : Cond.fieldLink "SnowTracks$Player" 22 RX5 (TX5 5).2.1 (TX5 5).2.2.1 ∈ lw_tbl := inT_1 _ (List.mem_of_getElem? (i := 185) rfl)
set_option maxRecDepth 100000 in
theorem lkF_X5_25 : Cond.fieldLink "SnowTracks$Player" 25 RX5 (TX5 0).2.1 (TX5 0).2.2.1 ∈ lw_tbl := inT_1 _ (List.mem_of_getElem? (i := 180) rfl)
set_option maxRecDepth 100000 in
theorem lkF_X5_28 : Cond.fieldLink "SnowTracks$Player" 28 RX5 (TX5 1).2.1 (TX5 1).2.2.1 ∈ lw_tbl := inT_1 _ (List.mem_of_getElem? (i := 181) rfl)
set_option maxRecDepth 100000 in
theorem lkF_X5_31 : Cond.fieldLinkNest "SnowTracks$Player" 31 RX7 (TX7 6).2.1 (TX7 6).2.2.1 "SnowTracks" ∈ lw_tbl := inT_1 _ (List.mem_of_getElem? (i := 45) rfl)
set_option maxRecDepth 100000 in
theorem lkF_X5_37 : Cond.fieldLinkNest "SnowTracks$Player" 37 RX7 (TX7 1).2.1 (TX7 1).2.2.1 "SnowTracks" ∈ lw_tbl := inT_1 _ (List.mem_of_getElem? (i := 37) rfl)
set_option maxRecDepth 100000 in
theorem lkF_X5_40 : Cond.fieldLinkNest "SnowTracks$Player" 40 RX8 (TX8 6).2.1 (TX8 6).2.2.1 "SnowTracks" ∈ lw_tbl := inT_2 _ (List.mem_of_getElem? (i := 132) rfl)
set_option maxRecDepth 100000 in
theorem lkF_X6_11 : Cond.fieldLink "SnowTracks$RowSearch" 11 RX6 (TX6 0).2.1 (TX6 0).2.2.1 ∈ lw_tbl := inT_1 _ (List.mem_of_getElem? (i := 127) rfl)
set_option maxRecDepth 100000 in
theorem lkF_X6_17 : Cond.fieldLink "SnowTracks$RowSearch" 17 RX6 (TX6 1).2.1 (TX6 1).2.2.1 ∈ lw_tbl := inT_1 _ (List.mem_of_getElem? (i := 128) rfl)
set_option maxRecDepth 100000 in
theorem lkF_X6_21 : Cond.fieldLink "SnowTracks$RowSearch" 21 RX6 (TX6 2).2.1 (TX6 2).2.2.1 ∈ lw_tbl := inT_1 _ (List.mem_of_getElem? (i := 129) rfl)
set_option maxRecDepth 100000 in
theorem lkF_X6_24 : Cond.fieldLink "SnowTracks$RowSearch" 24 RX6 (TX6 3).2.1 (TX6 3).2.2.1 ∈ lw_tbl := inT_1 _ (List.mem_of_getElem? (i := 130) rfl)
set_option maxRecDepth 100000 in
theorem lkF_X6_27 : Cond.fieldLink "SnowTracks$RowSearch" 27 RX6 (TX6 4).2.1 (TX6 4).2.2.1 ∈ lw_tbl := inT_1 _ (List.mem_of_getElem? (i := 132) rfl)
set_option maxRecDepth 100000 in
theorem lkF_X7_9 : Cond.fieldLink "SnowTracks$Tape" 9 RX7 (TX7 0).2.1 (TX7 0).2.2.1 ∈ lw_tbl := inT_1 _ (List.mem_of_getElem? (i := 34) rfl)
set_option maxRecDepth 100000 in
theorem lkF_X7_15 : Cond.fieldLink "SnowTracks$Tape" 15 RX7 (TX7 1).2.1 (TX7 1).2.2.1 ∈ lw_tbl := inT_1 _ (List.mem_of_getElem? (i := 35) rfl)
set_option maxRecDepth 100000 in
theorem lkF_X7_19 : Cond.fieldLink "SnowTracks$Tape" 19 RX7 (TX7 2).2.1 (TX7 2).2.2.1 ∈ lw_tbl := inT_1 _ (List.mem_of_getElem? (i := 38) rfl)
set_option maxRecDepth 100000 in
theorem lkF_X7_22 : Cond.fieldLink "SnowTracks$Tape" 22 RX7 (TX7 3).2.1 (TX7 3).2.2.1 ∈ lw_tbl := inT_1 _ (List.mem_of_getElem? (i := 39) rfl)
set_option maxRecDepth 100000 in
theorem lkF_X7_25 : Cond.fieldLink "SnowTracks$Tape" 25 RX7 (TX7 4).2.1 (TX7 4).2.2.1 ∈ lw_tbl := inT_1 _ (List.mem_of_getElem? (i := 40) rfl)
set_option maxRecDepth 100000 in
theorem lkF_X7_28 : Cond.fieldLink "SnowTracks$Tape" 28 RX7 (TX7 5).2.1 (TX7 5).2.2.1 ∈ lw_tbl := inT_1 _ (List.mem_of_getElem? (i := 42) rfl)
set_option maxRecDepth 100000 in
theorem lkF_X7_31 : Cond.fieldLink "SnowTracks$Tape" 31 RX7 (TX7 6).2.1 (TX7 6).2.2.1 ∈ lw_tbl := inT_1 _ (List.mem_of_getElem? (i := 44) rfl)
set_option maxRecDepth 100000 in
theorem lkF_X8_9 : Cond.fieldLink "SnowTracks$Walk" 9 RX8 (TX8 2).2.1 (TX8 2).2.2.1 ∈ lw_tbl := inT_2 _ (List.mem_of_getElem? (i := 125) rfl)
set_option maxRecDepth 100000 in
theorem lkF_X8_15 : Cond.fieldLink "SnowTracks$Walk" 15 RX8 (TX8 3).2.1 (TX8 3).2.2.1 ∈ lw_tbl := inT_2 _ (List.mem_of_getElem? (i := 126) rfl)
set_option maxRecDepth 100000 in
theorem lkF_X8_18 : Cond.fieldLink "SnowTracks$Walk" 18 RX8 (TX8 4).2.1 (TX8 4).2.2.1 ∈ lw_tbl := inT_2 _ (List.mem_of_getElem? (i := 127) rfl)
set_option maxRecDepth 100000 in
theorem lkF_X8_21 : Cond.fieldLink "SnowTracks$Walk" 21 RX8 (TX8 5).2.1 (TX8 5).2.2.1 ∈ lw_tbl := inT_2 _ (List.mem_of_getElem? (i := 129) rfl)
set_option maxRecDepth 100000 in
theorem lkF_X8_25 : Cond.fieldLink "SnowTracks$Walk" 25 RX8 (TX8 6).2.1 (TX8 6).2.2.1 ∈ lw_tbl := inT_2 _ (List.mem_of_getElem? (i := 131) rfl)
set_option maxRecDepth 100000 in
theorem lkF_X8_28 : Cond.fieldLink "SnowTracks$Walk" 28 RX8 (TX8 7).2.1 (TX8 7).2.2.1 ∈ lw_tbl := inT_2 _ (List.mem_of_getElem? (i := 134) rfl)
set_option maxRecDepth 100000 in
theorem lkF_X8_31 : Cond.fieldLink "SnowTracks$Walk" 31 RX8 (TX8 8).2.1 (TX8 8).2.2.1 ∈ lw_tbl := inT_2 _ (List.mem_of_getElem? (i := 136) rfl)
set_option maxRecDepth 100000 in
theorem lkF_X8_34 : Cond.fieldLink "SnowTracks$Walk" 34 RX8 (TX8 0).2.1 (TX8 0).2.2.1 ∈ lw_tbl := inT_2 _ (List.mem_of_getElem? (i := 120) rfl)
set_option maxRecDepth 100000 in
theorem lkF_X8_37 : Cond.fieldLink "SnowTracks$Walk" 37 RX8 (TX8 1).2.1 (TX8 1).2.2.1 ∈ lw_tbl := inT_2 _ (List.mem_of_getElem? (i := 122) rfl)
set_option maxRecDepth 100000 in
theorem lkF_X10_18 : Cond.fieldLink "SnowTracksModel" 18 RX10 (TX10 4).2.1 (TX10 4).2.2.1 ∈ lw_tbl := inT_4 _ (List.mem_of_getElem? (i := 172) rfl)
set_option maxRecDepth 100000 in
theorem lkF_X10_22 : Cond.fieldLink "SnowTracksModel" 22 RX10 (TX10 9).2.1 (TX10 9).2.2.1 ∈ lw_tbl := inT_4 _ (List.mem_of_getElem? (i := 177) rfl)
set_option maxRecDepth 100000 in
theorem lkF_X10_25 : Cond.fieldLink "SnowTracksModel" 25 RX10 (TX10 10).2.1 (TX10 10).2.2.1 ∈ lw_tbl := inT_4 _ (List.mem_of_getElem? (i := 178) rfl)
set_option maxRecDepth 100000 in
theorem lkF_X10_28 : Cond.fieldLink "SnowTracksModel" 28 RX10 (TX10 15).2.1 (TX10 15).2.2.1 ∈ lw_tbl := inT_4 _ (List.mem_of_getElem? (i := 183) rfl)
set_option maxRecDepth 100000 in
theorem lkF_X10_31 : Cond.fieldLink "SnowTracksModel" 31 RX10 (TX10 16).2.1 (TX10 16).2.2.1 ∈ lw_tbl := inT_4 _ (List.mem_of_getElem? (i := 184) rfl)
set_option maxRecDepth 100000 in
theorem lkF_X10_34 : Cond.fieldLink "SnowTracksModel" 34 RX10 (TX10 17).2.1 (TX10 17).2.2.1 ∈ lw_tbl := inT_4 _ (List.mem_of_getElem? (i := 185) rfl)
set_option maxRecDepth 100000 in
theorem lkF_X10_37 : Cond.fieldLink "SnowTracksModel" 37 RX10 (TX10 18).2.1 (TX10 18).2.2.1 ∈ lw_tbl := inT_4 _ (List.mem_of_getElem? (i := 186) rfl)
set_option maxRecDepth 100000 in
theorem lkF_X10_40 : Cond.fieldLink "SnowTracksModel" 40 RX10 (TX10 19).2.1 (TX10 19).2.2.1 ∈ lw_tbl := inT_4 _ (List.mem_of_getElem? (i := 187) rfl)
set_option maxRecDepth 100000 in
theorem lkF_X10_43 : Cond.fieldLink "SnowTracksModel" 43 RX10 (TX10 21).2.1 (TX10 21).2.2.1 ∈ lw_tbl := inT_4 _ (List.mem_of_getElem? (i := 189) rfl)
set_option maxRecDepth 100000 in
theorem lkF_X10_46 : Cond.fieldLink "SnowTracksModel" 46 RX10 (TX10 22).2.1 (TX10 22).2.2.1 ∈ lw_tbl := inT_4 _ (List.mem_of_getElem? (i := 190) rfl)
set_option maxRecDepth 100000 in
theorem lkF_X10_49 : Cond.fieldLink "SnowTracksModel" 49 RX10 (TX10 23).2.1 (TX10 23).2.2.1 ∈ lw_tbl := inT_4 _ (List.mem_of_getElem? (i := 191) rfl)
set_option maxRecDepth 100000 in
theorem lkF_X10_52 : Cond.fieldLink "SnowTracksModel" 52 RX10 (TX10 24).2.1 (TX10 24).2.2.1 ∈ lw_tbl := inT_4 _ (List.mem_of_getElem? (i := 192) rfl)
set_option maxRecDepth 100000 in
theorem lkF_X10_55 : Cond.fieldLink "SnowTracksModel" 55 RX10 (TX10 25).2.1 (TX10 25).2.2.1 ∈ lw_tbl := inT_4 _ (List.mem_of_getElem? (i := 193) rfl)
set_option maxRecDepth 100000 in
theorem lkF_X10_58 : Cond.fieldLink "SnowTracksModel" 58 RX10 (TX10 26).2.1 (TX10 26).2.2.1 ∈ lw_tbl := inT_4 _ (List.mem_of_getElem? (i := 194) rfl)
set_option maxRecDepth 100000 in
theorem lkF_X10_61 : Cond.fieldLink "SnowTracksModel" 61 RX10 (TX10 28).2.1 (TX10 28).2.2.1 ∈ lw_tbl := inT_4 _ (List.mem_of_getElem? (i := 196) rfl)
set_option maxRecDepth 100000 in
theorem lkF_X10_64 : Cond.fieldLink "SnowTracksModel" 64 RX10 (TX10 33).2.1 (TX10 33).2.2.1 ∈ lw_tbl := inT_4 _ (List.mem_of_getElem? (i := 201) rfl)
set_option maxRecDepth 100000 in
theorem lkF_X10_67 : Cond.fieldLink "SnowTracksModel" 67 RX10 (TX10 35).2.1 (TX10 35).2.2.1 ∈ lw_tbl := inT_4 _ (List.mem_of_getElem? (i := 203) rfl)
set_option maxRecDepth 100000 in
theorem lkF_X10_70 : Cond.fieldLink "SnowTracksModel" 70 RX10 (TX10 37).2.1 (TX10 37).2.2.1 ∈ lw_tbl := inT_4 _ (List.mem_of_getElem? (i := 205) rfl)
set_option maxRecDepth 100000 in
theorem lkF_X10_77 : Cond.fieldLink "SnowTracksModel" 77 RX10 (TX10 1).2.1 (TX10 1).2.2.1 ∈ lw_tbl := inT_4 _ (List.mem_of_getElem? (i := 169) rfl)
set_option maxRecDepth 100000 in
theorem lkF_X10_81 : Cond.fieldLink "SnowTracksModel" 81 RX10 (TX10 2).2.1 (TX10 2).2.2.1 ∈ lw_tbl := inT_4 _ (List.mem_of_getElem? (i := 170) rfl)
set_option maxRecDepth 100000 in
theorem lkF_X10_84 : Cond.fieldLink "SnowTracksModel" 84 RX10 (TX10 3).2.1 (TX10 3).2.2.1 ∈ lw_tbl := inT_4 _ (List.mem_of_getElem? (i := 171) rfl)
set_option maxRecDepth 100000 in
theorem lkF_X10_87 : Cond.fieldLink "SnowTracksModel" 87 RX10 (TX10 0).2.1 (TX10 0).2.2.1 ∈ lw_tbl := inT_4 _ (List.mem_of_getElem? (i := 168) rfl)
set_option maxRecDepth 100000 in
theorem lkF_X10_94 : Cond.fieldLink "SnowTracksModel" 94 RX10 (TX10 5).2.1 (TX10 5).2.2.1 ∈ lw_tbl := inT_4 _ (List.mem_of_getElem? (i := 173) rfl)
set_option maxRecDepth 100000 in
theorem lkF_X10_97 : Cond.fieldLink "SnowTracksModel" 97 RX10 (TX10 6).2.1 (TX10 6).2.2.1 ∈ lw_tbl := inT_4 _ (List.mem_of_getElem? (i := 174) rfl)
set_option maxRecDepth 100000 in
theorem lkF_X10_104 : Cond.fieldLink "SnowTracksModel" 104 RX10 (TX10 7).2.1 (TX10 7).2.2.1 ∈ lw_tbl := inT_4 _ (List.mem_of_getElem? (i := 175) rfl)
set_option maxRecDepth 100000 in
theorem lkF_X10_128 : Cond.fieldLink "SnowTracksModel" 128 RX10 (TX10 8).2.1 (TX10 8).2.2.1 ∈ lw_tbl := inT_4 _ (List.mem_of_getElem? (i := 176) rfl)
set_option maxRecDepth 100000 in
theorem lkF_X10_135 : Cond.fieldLink "SnowTracksModel" 135 RX10 (TX10 11).2.1 (TX10 11).2.2.1 ∈ lw_tbl := inT_4 _ (List.mem_of_getElem? (i := 179) rfl)
set_option maxRecDepth 100000 in
theorem lkF_X10_138 : Cond.fieldLink "SnowTracksModel" 138 RX10 (TX10 14).2.1 (TX10 14).2.2.1 ∈ lw_tbl := inT_4 _ (List.mem_of_getElem? (i := 182) rfl)
set_option maxRecDepth 100000 in
theorem lkF_X10_141 : Cond.fieldLink "SnowTracksModel" 141 RX10 (TX10 13).2.1 (TX10 13).2.2.1 ∈ lw_tbl := inT_4 _ (List.mem_of_getElem? (i := 181) rfl)
set_option maxRecDepth 100000 in
theorem lkF_X10_144 : Cond.fieldLink "SnowTracksModel" 144 RX10 (TX10 12).2.1 (TX10 12).2.2.1 ∈ lw_tbl := inT_4 _ (List.mem_of_getElem? (i := 180) rfl)
set_option maxRecDepth 100000 in
theorem lkF_X10_165 : Cond.fieldLink "SnowTracksModel" 165 RX10 (TX10 20).2.1 (TX10 20).2.2.1 ∈ lw_tbl := inT_4 _ (List.mem_of_getElem? (i := 188) rfl)
set_option maxRecDepth 100000 in
theorem lkF_X10_194 : Cond.fieldLink "SnowTracksModel" 194 RX10 (TX10 27).2.1 (TX10 27).2.2.1 ∈ lw_tbl := inT_4 _ (List.mem_of_getElem? (i := 195) rfl)
set_option maxRecDepth 100000 in
theorem lkF_X10_260 : Cond.fieldLink "SnowTracksModel" 260 RX10 (TX10 29).2.1 (TX10 29).2.2.1 ∈ lw_tbl := inT_4 _ (List.mem_of_getElem? (i := 197) rfl)
set_option maxRecDepth 100000 in
theorem lkF_X10_271 : Cond.fieldLink "SnowTracksModel" 271 RX10 (TX10 32).2.1 (TX10 32).2.2.1 ∈ lw_tbl := inT_4 _ (List.mem_of_getElem? (i := 200) rfl)
set_option maxRecDepth 100000 in
theorem lkF_X10_274 : Cond.fieldLink "SnowTracksModel" 274 RX10 (TX10 30).2.1 (TX10 30).2.2.1 ∈ lw_tbl := inT_4 _ (List.mem_of_getElem? (i := 198) rfl)
set_option maxRecDepth 100000 in
theorem lkF_X10_277 : Cond.fieldLink "SnowTracksModel" 277 RX10 (TX10 31).2.1 (TX10 31).2.2.1 ∈ lw_tbl := inT_4 _ (List.mem_of_getElem? (i := 199) rfl)
set_option maxRecDepth 100000 in
theorem lkF_X10_286 : Cond.fieldLink "SnowTracksModel" 286 RX10 (TX10 34).2.1 (TX10 34).2.2.1 ∈ lw_tbl := inT_4 _ (List.mem_of_getElem? (i := 202) rfl)
set_option maxRecDepth 100000 in
theorem lkF_X10_298 : Cond.fieldLink "SnowTracksModel" 298 RX10 (TX10 36).2.1 (TX10 36).2.2.1 ∈ lw_tbl := inT_4 _ (List.mem_of_getElem? (i := 204) rfl)
set_option maxRecDepth 100000 in
theorem lkF_X10_304 : Cond.fieldLink "SnowTracksModel" 304 RX10 (TX10 38).2.1 (TX10 38).2.2.1 ∈ lw_tbl := inT_4 _ (List.mem_of_getElem? (i := 206) rfl)
set_option maxRecDepth 100000 in
theorem lkF_X10_307 : Cond.fieldLink "SnowTracksModel" 307 RX10 (TX10 39).2.1 (TX10 39).2.2.1 ∈ lw_tbl := inT_4 _ (List.mem_of_getElem? (i := 207) rfl)
set_option maxRecDepth 100000 in
theorem lkF_X10_310 : Cond.fieldLink "SnowTracksModel" 310 RX10 (TX10 40).2.1 (TX10 40).2.2.1 ∈ lw_tbl := inT_4 _ (List.mem_of_getElem? (i := 208) rfl)
set_option maxRecDepth 100000 in
theorem lkK_X9_232 : Cond.constant "SnowTracks" 232 (-100000 : Int32) ∈ lw_tbl := inT_3 _ (List.mem_of_getElem? (i := 138) rfl)
set_option maxRecDepth 100000 in
theorem lkK_X9_328 : Cond.constant "SnowTracks" 328 (1000000 : Int32) ∈ lw_tbl := inT_2 _ (List.mem_of_getElem? (i := 230) rfl)
set_option maxRecDepth 100000 in
theorem lkK_X9_332 : Cond.constant "SnowTracks" 332 (-1000000 : Int32) ∈ lw_tbl := inT_3 _ (List.mem_of_getElem? (i := 6) rfl)
set_option maxRecDepth 100000 in
theorem lkK_X1_59 : Cond.constant "SnowTracks$CoreSearch" 59 (-1000000 : Int32) ∈ lw_tbl := inT_3 _ (List.mem_of_getElem? (i := 94) rfl)
set_option maxRecDepth 100000 in
theorem lkK_X2_21 : Cond.constant "SnowTracks$Fact" 21 (-1000000 : Int32) ∈ lw_tbl := inT_1 _ (List.mem_of_getElem? (i := 204) rfl)
set_option maxRecDepth 100000 in
theorem lkK_X2_25 : Cond.constant "SnowTracks$Fact" 25 (1000000 : Int32) ∈ lw_tbl := inT_1 _ (List.mem_of_getElem? (i := 205) rfl)
set_option maxRecDepth 100000 in
theorem lkK_X4_35 : Cond.constant "SnowTracks$Net" 35 (-1000000 : Int32) ∈ lw_tbl := inT_3 _ (List.mem_of_getElem? (i := 63) rfl)
set_option maxRecDepth 100000 in
theorem lkK_X5_36 : Cond.constant "SnowTracks$Player" 36 (1000000 : Int32) ∈ lw_tbl := inT_2 _ (List.mem_of_getElem? (i := 161) rfl)
set_option maxRecDepth 100000 in
theorem lkK_X10_197 : Cond.constant "SnowTracksModel" 197 (-1000000 : Int32) ∈ lw_tbl := inT_5 _ (List.mem_of_getElem? (i := 201) rfl)
set_option maxRecDepth 100000 in
theorem lkK_X10_247 : Cond.constant "SnowTracksModel" 247 (-100000 : Int32) ∈ lw_tbl := inT_6 _ (List.mem_of_getElem? (i := 23) rfl)
set_option maxRecDepth 100000 in
theorem lkK_I_265 : Cond.constant "java/lang/Integer" 265 (1431655765 : Int32) ∈ lw_tbl := inT_3 _ (List.mem_of_getElem? (i := 79) rfl)
set_option maxRecDepth 100000 in
theorem lkK_I_266 : Cond.constant "java/lang/Integer" 266 (858993459 : Int32) ∈ lw_tbl := inT_3 _ (List.mem_of_getElem? (i := 80) rfl)
set_option maxRecDepth 100000 in
theorem lkK_I_267 : Cond.constant "java/lang/Integer" 267 (252645135 : Int32) ∈ lw_tbl := inT_3 _ (List.mem_of_getElem? (i := 81) rfl)
set_option maxRecDepth 100000 in
theorem lkM_X9_3 : Cond.methodLink "SnowTracks" 3 Lib.objectInit ∈ lw_tbl := inT_1 _ (List.mem_of_getElem? (i := 25) rfl)
set_option maxRecDepth 100000 in
theorem lkM_X9_11 : Cond.methodLinkNest "SnowTracks" 11 tX7_init.1 "SnowTracks" ∈ lw_tbl := inT_1 _ (List.mem_of_getElem? (i := 30) rfl)
set_option maxRecDepth 100000 in
theorem lkM_X9_44 : Cond.methodLinkNest "SnowTracks" 44 tX4_init.1 "SnowTracks" ∈ lw_tbl := inT_1 _ (List.mem_of_getElem? (i := 68) rfl)
set_option maxRecDepth 100000 in
theorem lkM_X9_51 : Cond.methodLinkNest "SnowTracks" 51 tX1_init.1 "SnowTracks" ∈ lw_tbl := inT_1 _ (List.mem_of_getElem? (i := 83) rfl)
set_option maxRecDepth 100000 in
theorem lkM_X9_58 : Cond.methodLink "SnowTracks" 58 tX0_init.1 ∈ lw_tbl := inT_1 _ (List.mem_of_getElem? (i := 96) rfl)
set_option maxRecDepth 100000 in
theorem lkM_X9_65 : Cond.methodLink "SnowTracks" 65 tX6_init.1 ∈ lw_tbl := inT_1 _ (List.mem_of_getElem? (i := 121) rfl)
set_option maxRecDepth 100000 in
theorem lkM_X9_72 : Cond.methodLinkNest "SnowTracks" 72 tX3_init.1 "SnowTracks" ∈ lw_tbl := inT_1 _ (List.mem_of_getElem? (i := 147) rfl)
set_option maxRecDepth 100000 in
theorem lkM_X9_83 : Cond.methodLink "SnowTracks" 83 tJ_min.1 ∈ lw_tbl := inT_1 _ (List.mem_of_getElem? (i := 168) rfl)
set_option maxRecDepth 100000 in
theorem lkM_X9_89 : Cond.methodLink "SnowTracks" 89 tJ_max.1 ∈ lw_tbl := inT_1 _ (List.mem_of_getElem? (i := 171) rfl)
set_option maxRecDepth 100000 in
theorem lkM_X9_103 : Cond.methodLink "SnowTracks" 103 tX5_init.1 ∈ lw_tbl := inT_1 _ (List.mem_of_getElem? (i := 176) rfl)
set_option maxRecDepth 100000 in
theorem lkM_X9_110 : Cond.methodLinkNest "SnowTracks" 110 tX2_init.1 "SnowTracks" ∈ lw_tbl := inT_1 _ (List.mem_of_getElem? (i := 200) rfl)
set_option maxRecDepth 100000 in
theorem lkM_X9_114 : Cond.methodLink "SnowTracks" 114 tX7_append.1 ∈ lw_tbl := inT_2 _ (List.mem_of_getElem? (i := 54) rfl)
set_option maxRecDepth 100000 in
theorem lkM_X9_118 : Cond.methodLink "SnowTracks" 118 tX7_cut.1 ∈ lw_tbl := inT_2 _ (List.mem_of_getElem? (i := 58) rfl)
set_option maxRecDepth 100000 in
theorem lkM_X9_121 : Cond.methodLink "SnowTracks" 121 tX7_wrongAt.1 ∈ lw_tbl := inT_2 _ (List.mem_of_getElem? (i := 70) rfl)
set_option maxRecDepth 100000 in
theorem lkM_X9_130 : Cond.methodLink "SnowTracks" 130 tX9_cellAt.1 ∈ lw_tbl := inT_2 _ (List.mem_of_getElem? (i := 105) rfl)
set_option maxRecDepth 100000 in
theorem lkM_X9_133 : Cond.methodLink "SnowTracks" 133 tX8_init.1 ∈ lw_tbl := inT_2 _ (List.mem_of_getElem? (i := 109) rfl)
set_option maxRecDepth 100000 in
theorem lkM_X9_136 : Cond.methodLink "SnowTracks" 136 tX5_play.1 ∈ lw_tbl := inT_2 _ (List.mem_of_getElem? (i := 157) rfl)
set_option maxRecDepth 100000 in
theorem lkM_X9_140 : Cond.methodLink "SnowTracks" 140 tX8_listPlaces.1 ∈ lw_tbl := inT_2 _ (List.mem_of_getElem? (i := 179) rfl)
set_option maxRecDepth 100000 in
theorem lkM_X9_143 : Cond.methodLink "SnowTracks" 143 tX9_walkOf.1 ∈ lw_tbl := inT_2 _ (List.mem_of_getElem? (i := 187) rfl)
set_option maxRecDepth 100000 in
theorem lkM_X9_165 : Cond.methodLink "SnowTracks" 165 tX8_cellOf.1 ∈ lw_tbl := inT_2 _ (List.mem_of_getElem? (i := 191) rfl)
set_option maxRecDepth 100000 in
theorem lkM_X9_169 : Cond.methodLink "SnowTracks" 169 tX8_latestIn.1 ∈ lw_tbl := inT_2 _ (List.mem_of_getElem? (i := 196) rfl)
set_option maxRecDepth 100000 in
theorem lkM_X9_172 : Cond.methodLink "SnowTracks" 172 tX9_printsIn.1 ∈ lw_tbl := inT_2 _ (List.mem_of_getElem? (i := 204) rfl)
set_option maxRecDepth 100000 in
theorem lkM_X9_176 : Cond.methodLink "SnowTracks" 176 tX9_isWho.1 ∈ lw_tbl := inT_2 _ (List.mem_of_getElem? (i := 212) rfl)
set_option maxRecDepth 100000 in
theorem lkM_X9_179 : Cond.methodLink "SnowTracks" 179 tX9_tellAbove.1 ∈ lw_tbl := inT_2 _ (List.mem_of_getElem? (i := 215) rfl)
set_option maxRecDepth 100000 in
theorem lkM_X9_183 : Cond.methodLink "SnowTracks" 183 tX9_tellPrint.1 ∈ lw_tbl := inT_2 _ (List.mem_of_getElem? (i := 239) rfl)
set_option maxRecDepth 100000 in
theorem lkM_X9_187 : Cond.methodLink "SnowTracks" 187 tX9_tellBegan.1 ∈ lw_tbl := inT_3 _ (List.mem_of_getElem? (i := 7) rfl)
set_option maxRecDepth 100000 in
theorem lkM_X9_190 : Cond.methodLink "SnowTracks" 190 tX9_tellBehind.1 ∈ lw_tbl := inT_3 _ (List.mem_of_getElem? (i := 11) rfl)
set_option maxRecDepth 100000 in
theorem lkM_X9_196 : Cond.methodLink "SnowTracks" 196 tX9_isSet.1 ∈ lw_tbl := inT_3 _ (List.mem_of_getElem? (i := 27) rfl)
set_option maxRecDepth 100000 in
theorem lkM_X9_199 : Cond.methodLink "SnowTracks" 199 tX9_drawNet.1 ∈ lw_tbl := inT_3 _ (List.mem_of_getElem? (i := 31) rfl)
set_option maxRecDepth 100000 in
theorem lkM_X9_202 : Cond.methodLink "SnowTracks" 202 tJ_bitCount.1 ∈ lw_tbl := inT_3 _ (List.mem_of_getElem? (i := 76) rfl)
set_option maxRecDepth 100000 in
theorem lkM_X9_207 : Cond.methodLink "SnowTracks" 207 tX4_clear.1 ∈ lw_tbl := inT_3 _ (List.mem_of_getElem? (i := 35) rfl)
set_option maxRecDepth 100000 in
theorem lkM_X9_210 : Cond.methodLink "SnowTracks" 210 tX1_fewest.1 ∈ lw_tbl := inT_3 _ (List.mem_of_getElem? (i := 82) rfl)
set_option maxRecDepth 100000 in
theorem lkM_X9_214 : Cond.methodLink "SnowTracks" 214 tX9_withoutWords.1 ∈ lw_tbl := inT_3 _ (List.mem_of_getElem? (i := 106) rfl)
set_option maxRecDepth 100000 in
theorem lkM_X9_217 : Cond.methodLink "SnowTracks" 217 tX9_speakersOf.1 ∈ lw_tbl := inT_3 _ (List.mem_of_getElem? (i := 110) rfl)
set_option maxRecDepth 100000 in
theorem lkM_X9_220 : Cond.methodLink "SnowTracks" 220 tX9_isBlamedBefore.1 ∈ lw_tbl := inT_3 _ (List.mem_of_getElem? (i := 114) rfl)
set_option maxRecDepth 100000 in
theorem lkM_X9_223 : Cond.methodLink "SnowTracks" 223 tX9_canBe.1 ∈ lw_tbl := inT_3 _ (List.mem_of_getElem? (i := 121) rfl)
set_option maxRecDepth 100000 in
theorem lkM_X9_226 : Cond.methodLink "SnowTracks" 226 tX4_firstOf.1 ∈ lw_tbl := inT_3 _ (List.mem_of_getElem? (i := 125) rfl)
set_option maxRecDepth 100000 in
theorem lkM_X9_229 : Cond.methodLink "SnowTracks" 229 tX4_lastOf.1 ∈ lw_tbl := inT_3 _ (List.mem_of_getElem? (i := 130) rfl)
set_option maxRecDepth 100000 in
theorem lkM_X9_233 : Cond.methodLink "SnowTracks" 233 tX4_leastGap.1 ∈ lw_tbl := inT_3 _ (List.mem_of_getElem? (i := 139) rfl)
set_option maxRecDepth 100000 in
theorem lkM_X9_236 : Cond.methodLink "SnowTracks" 236 tX4_greatestGap.1 ∈ lw_tbl := inT_3 _ (List.mem_of_getElem? (i := 143) rfl)
set_option maxRecDepth 100000 in
theorem lkM_X9_245 : Cond.methodLink "SnowTracks" 245 tX9_isCrossing.1 ∈ lw_tbl := inT_2 _ (List.mem_of_getElem? (i := 219) rfl)
set_option maxRecDepth 100000 in
theorem lkM_X9_249 : Cond.methodLink "SnowTracks" 249 tX9_leadToLieAbove.1 ∈ lw_tbl := inT_2 _ (List.mem_of_getElem? (i := 226) rfl)
set_option maxRecDepth 100000 in
theorem lkM_X9_253 : Cond.methodLink "SnowTracks" 253 tX9_verdict.1 ∈ lw_tbl := inT_3 _ (List.mem_of_getElem? (i := 155) rfl)
set_option maxRecDepth 100000 in
theorem lkM_X9_256 : Cond.methodLink "SnowTracks" 256 tX4_wholeSpan.1 ∈ lw_tbl := inT_3 _ (List.mem_of_getElem? (i := 167) rfl)
set_option maxRecDepth 100000 in
theorem lkM_X9_260 : Cond.methodLink "SnowTracks" 260 tX3_clear.1 ∈ lw_tbl := inT_3 _ (List.mem_of_getElem? (i := 175) rfl)
set_option maxRecDepth 100000 in
theorem lkM_X9_262 : Cond.methodLink "SnowTracks" 262 tX9_lookAtPair.1 ∈ lw_tbl := inT_3 _ (List.mem_of_getElem? (i := 179) rfl)
set_option maxRecDepth 100000 in
theorem lkM_X9_277 : Cond.methodLink "SnowTracks" 277 tX8_ticksToEnd.1 ∈ lw_tbl := inT_3 _ (List.mem_of_getElem? (i := 208) rfl)
set_option maxRecDepth 100000 in
theorem lkM_X9_280 : Cond.methodLink "SnowTracks" 280 tX0_mostLinks.1 ∈ lw_tbl := inT_3 _ (List.mem_of_getElem? (i := 216) rfl)
set_option maxRecDepth 100000 in
theorem lkM_X9_284 : Cond.methodLink "SnowTracks" 284 tX9_isIn.1 ∈ lw_tbl := inT_3 _ (List.mem_of_getElem? (i := 40) rfl)
set_option maxRecDepth 100000 in
theorem lkM_X9_290 : Cond.methodLink "SnowTracks" 290 tX9_startAt.1 ∈ lw_tbl := inT_4 _ (List.mem_of_getElem? (i := 8) rfl)
set_option maxRecDepth 100000 in
theorem lkM_X9_302 : Cond.methodLink "SnowTracks" 302 tX8_tickOf.1 ∈ lw_tbl := inT_4 _ (List.mem_of_getElem? (i := 16) rfl)
set_option maxRecDepth 100000 in
theorem lkM_X9_305 : Cond.methodLink "SnowTracks" 305 tX9_isTick.1 ∈ lw_tbl := inT_3 _ (List.mem_of_getElem? (i := 3) rfl)
set_option maxRecDepth 100000 in
theorem lkM_X9_308 : Cond.methodLink "SnowTracks" 308 tX9_showAll.1 ∈ lw_tbl := inT_4 _ (List.mem_of_getElem? (i := 32) rfl)
set_option maxRecDepth 100000 in
theorem lkM_X9_312 : Cond.methodLink "SnowTracks" 312 tX6_seek.1 ∈ lw_tbl := inT_4 _ (List.mem_of_getElem? (i := 58) rfl)
set_option maxRecDepth 100000 in
theorem lkM_X9_322 : Cond.methodLink "SnowTracks" 322 tX9_prints.1 ∈ lw_tbl := inT_4 _ (List.mem_of_getElem? (i := 80) rfl)
set_option maxRecDepth 100000 in
theorem lkM_X9_325 : Cond.methodLink "SnowTracks" 325 tX9_pointOf.1 ∈ lw_tbl := inT_2 _ (List.mem_of_getElem? (i := 223) rfl)
set_option maxRecDepth 100000 in
theorem lkM_X9_329 : Cond.methodLink "SnowTracks" 329 tX9_keep.1 ∈ lw_tbl := inT_2 _ (List.mem_of_getElem? (i := 231) rfl)
set_option maxRecDepth 100000 in
theorem lkM_X9_333 : Cond.methodLink "SnowTracks" 333 tX2_tell.1 ∈ lw_tbl := inT_2 _ (List.mem_of_getElem? (i := 235) rfl)
set_option maxRecDepth 100000 in
theorem lkM_X9_337 : Cond.methodLink "SnowTracks" 337 tX4_takes.1 ∈ lw_tbl := inT_3 _ (List.mem_of_getElem? (i := 43) rfl)
set_option maxRecDepth 100000 in
theorem lkM_X9_341 : Cond.methodLink "SnowTracks" 341 tX9_lookAtCrossing.1 ∈ lw_tbl := inT_3 _ (List.mem_of_getElem? (i := 183) rfl)
set_option maxRecDepth 100000 in
theorem lkM_X9_344 : Cond.methodLink "SnowTracks" 344 tX4_spanWith.1 ∈ lw_tbl := inT_3 _ (List.mem_of_getElem? (i := 187) rfl)
set_option maxRecDepth 100000 in
theorem lkM_X9_347 : Cond.methodLink "SnowTracks" 347 tX3_isBetter.1 ∈ lw_tbl := inT_3 _ (List.mem_of_getElem? (i := 191) rfl)
set_option maxRecDepth 100000 in
theorem lkM_X9_350 : Cond.methodLink "SnowTracks" 350 tX3_offer.1 ∈ lw_tbl := inT_3 _ (List.mem_of_getElem? (i := 195) rfl)
set_option maxRecDepth 100000 in
theorem lkM_X9_354 : Cond.methodLink "SnowTracks" 354 tJ_fill.1 ∈ lw_tbl := inT_4 _ (List.mem_of_getElem? (i := 36) rfl)
set_option maxRecDepth 100000 in
theorem lkM_X9_360 : Cond.methodLink "SnowTracks" 360 tX9_latestSnow.1 ∈ lw_tbl := inT_4 _ (List.mem_of_getElem? (i := 37) rfl)
set_option maxRecDepth 100000 in
theorem lkM_X9_363 : Cond.methodLink "SnowTracks" 363 tX9_showWalk.1 ∈ lw_tbl := inT_4 _ (List.mem_of_getElem? (i := 41) rfl)
set_option maxRecDepth 100000 in
theorem lkM_X9_367 : Cond.methodLink "SnowTracks" 367 tX8_isPrint.1 ∈ lw_tbl := inT_4 _ (List.mem_of_getElem? (i := 45) rfl)
set_option maxRecDepth 100000 in
theorem lkM_X0_3 : Cond.methodLink "SnowTracks$ChainSearch" 3 Lib.objectInit ∈ lw_tbl := inT_1 _ (List.mem_of_getElem? (i := 99) rfl)
set_option maxRecDepth 100000 in
theorem lkM_X0_31 : Cond.methodLinkNest "SnowTracks$ChainSearch" 31 tX4_init.1 "SnowTracks" ∈ lw_tbl := inT_1 _ (List.mem_of_getElem? (i := 102) rfl)
set_option maxRecDepth 100000 in
theorem lkM_X0_32 : Cond.methodLink "SnowTracks$ChainSearch" 32 tJ_min.1 ∈ lw_tbl := inT_3 _ (List.mem_of_getElem? (i := 220) rfl)
set_option maxRecDepth 100000 in
theorem lkM_X0_43 : Cond.methodLink "SnowTracks$ChainSearch" 43 tX8_ticksToEnd.1 ∈ lw_tbl := inT_3 _ (List.mem_of_getElem? (i := 221) rfl)
set_option maxRecDepth 100000 in
theorem lkM_X0_47 : Cond.methodLink "SnowTracks$ChainSearch" 47 tX4_copy.1 ∈ lw_tbl := inT_3 _ (List.mem_of_getElem? (i := 222) rfl)
set_option maxRecDepth 100000 in
theorem lkM_X0_51 : Cond.methodLink "SnowTracks$ChainSearch" 51 tX0_link.1 ∈ lw_tbl := inT_3 _ (List.mem_of_getElem? (i := 227) rfl)
set_option maxRecDepth 100000 in
theorem lkM_X0_55 : Cond.methodLink "SnowTracks$ChainSearch" 55 tJ_max.1 ∈ lw_tbl := inT_3 _ (List.mem_of_getElem? (i := 231) rfl)
set_option maxRecDepth 100000 in
theorem lkM_X0_58 : Cond.methodLinkNest "SnowTracks$ChainSearch" 58 tX9_isIn.1 "SnowTracks" ∈ lw_tbl := inT_3 _ (List.mem_of_getElem? (i := 232) rfl)
set_option maxRecDepth 100000 in
theorem lkM_X0_62 : Cond.methodLink "SnowTracks$ChainSearch" 62 tX0_mayFollow.1 ∈ lw_tbl := inT_3 _ (List.mem_of_getElem? (i := 233) rfl)
set_option maxRecDepth 100000 in
theorem lkM_X0_66 : Cond.methodLinkNest "SnowTracks$ChainSearch" 66 tX9_pointOf.1 "SnowTracks" ∈ lw_tbl := inT_3 _ (List.mem_of_getElem? (i := 237) rfl)
set_option maxRecDepth 100000 in
theorem lkM_X0_70 : Cond.methodLink "SnowTracks$ChainSearch" 70 tX4_takesGap.1 ∈ lw_tbl := inT_3 _ (List.mem_of_getElem? (i := 239) rfl)
set_option maxRecDepth 100000 in
theorem lkM_X0_74 : Cond.methodLink "SnowTracks$ChainSearch" 74 tX4_fits.1 ∈ lw_tbl := inT_3 _ (List.mem_of_getElem? (i := 238) rfl)
set_option maxRecDepth 100000 in
theorem lkM_X1_3 : Cond.methodLink "SnowTracks$CoreSearch" 3 Lib.objectInit ∈ lw_tbl := inT_1 _ (List.mem_of_getElem? (i := 86) rfl)
set_option maxRecDepth 100000 in
theorem lkM_X1_23 : Cond.methodLink "SnowTracks$CoreSearch" 23 arraycopyName ∈ lw_tbl := inT_3 _ (List.mem_of_getElem? (i := 86) rfl)
set_option maxRecDepth 100000 in
theorem lkM_X1_29 : Cond.methodLinkNest "SnowTracks$CoreSearch" 29 tX9_isIn.1 "SnowTracks" ∈ lw_tbl := inT_3 _ (List.mem_of_getElem? (i := 89) rfl)
set_option maxRecDepth 100000 in
theorem lkM_X1_45 : Cond.methodLink "SnowTracks$CoreSearch" 45 tX1_goOver.1 ∈ lw_tbl := inT_3 _ (List.mem_of_getElem? (i := 90) rfl)
set_option maxRecDepth 100000 in
theorem lkM_X1_55 : Cond.methodLink "SnowTracks$CoreSearch" 55 tX1_isRoundTripAbove.1 ∈ lw_tbl := inT_3 _ (List.mem_of_getElem? (i := 98) rfl)
set_option maxRecDepth 100000 in
theorem lkM_X1_60 : Cond.methodLink "SnowTracks$CoreSearch" 60 tX4_isPoint.1 ∈ lw_tbl := inT_3 _ (List.mem_of_getElem? (i := 95) rfl)
set_option maxRecDepth 100000 in
theorem lkM_X1_63 : Cond.methodLink "SnowTracks$CoreSearch" 63 tX4_least.1 ∈ lw_tbl := inT_3 _ (List.mem_of_getElem? (i := 96) rfl)
set_option maxRecDepth 100000 in
theorem lkM_X1_66 : Cond.methodLink "SnowTracks$CoreSearch" 66 tJ_max.1 ∈ lw_tbl := inT_3 _ (List.mem_of_getElem? (i := 97) rfl)
set_option maxRecDepth 100000 in
theorem lkM_X2_3 : Cond.methodLink "SnowTracks$Fact" 3 Lib.objectInit ∈ lw_tbl := inT_1 _ (List.mem_of_getElem? (i := 203) rfl)
set_option maxRecDepth 100000 in
theorem lkM_X3_3 : Cond.methodLink "SnowTracks$Glance" 3 Lib.objectInit ∈ lw_tbl := inT_1 _ (List.mem_of_getElem? (i := 150) rfl)
set_option maxRecDepth 100000 in
theorem lkM_X3_24 : Cond.methodLink "SnowTracks$Glance" 24 tX3_isBetter.1 ∈ lw_tbl := inT_3 _ (List.mem_of_getElem? (i := 199) rfl)
set_option maxRecDepth 100000 in
theorem lkM_X4_3 : Cond.methodLink "SnowTracks$Net" 3 Lib.objectInit ∈ lw_tbl := inT_1 _ (List.mem_of_getElem? (i := 71) rfl)
set_option maxRecDepth 100000 in
theorem lkM_X4_19 : Cond.methodLink "SnowTracks$Net" 19 tJ_min.1 ∈ lw_tbl := inT_3 _ (List.mem_of_getElem? (i := 39) rfl)
set_option maxRecDepth 100000 in
theorem lkM_X4_25 : Cond.methodLink "SnowTracks$Net" 25 arraycopyName ∈ lw_tbl := inT_3 _ (List.mem_of_getElem? (i := 226) rfl)
set_option maxRecDepth 100000 in
theorem lkM_X4_31 : Cond.methodLink "SnowTracks$Net" 31 tX4_isPoint.1 ∈ lw_tbl := inT_3 _ (List.mem_of_getElem? (i := 55) rfl)
set_option maxRecDepth 100000 in
theorem lkM_X4_47 : Cond.methodLink "SnowTracks$Net" 47 tX4_takesGap.1 ∈ lw_tbl := inT_3 _ (List.mem_of_getElem? (i := 47) rfl)
set_option maxRecDepth 100000 in
theorem lkM_X4_54 : Cond.methodLink "SnowTracks$Net" 54 tX4_fits.1 ∈ lw_tbl := inT_3 _ (List.mem_of_getElem? (i := 51) rfl)
set_option maxRecDepth 100000 in
theorem lkM_X4_57 : Cond.methodLink "SnowTracks$Net" 57 tX4_least.1 ∈ lw_tbl := inT_3 _ (List.mem_of_getElem? (i := 59) rfl)
set_option maxRecDepth 100000 in
theorem lkM_X4_59 : Cond.methodLink "SnowTracks$Net" 59 tX4_widen.1 ∈ lw_tbl := inT_3 _ (List.mem_of_getElem? (i := 64) rfl)
set_option maxRecDepth 100000 in
theorem lkM_X4_63 : Cond.methodLinkNest "SnowTracks$Net" 63 tX9_pointOf.1 "SnowTracks" ∈ lw_tbl := inT_3 _ (List.mem_of_getElem? (i := 129) rfl)
set_option maxRecDepth 100000 in
theorem lkM_X5_3 : Cond.methodLink "SnowTracks$Player" 3 Lib.objectInit ∈ lw_tbl := inT_1 _ (List.mem_of_getElem? (i := 179) rfl)
set_option maxRecDepth 100000 in
theorem lkM_X5_45 : Cond.methodLink "SnowTracks$Player" 45 tX7_byteAt.1 ∈ lw_tbl := inT_2 _ (List.mem_of_getElem? (i := 162) rfl)
set_option maxRecDepth 100000 in
theorem lkM_X5_49 : Cond.methodLink "SnowTracks$Player" 49 tX5_move.1 ∈ lw_tbl := inT_2 _ (List.mem_of_getElem? (i := 163) rfl)
set_option maxRecDepth 100000 in
theorem lkM_X5_53 : Cond.methodLink "SnowTracks$Player" 53 tX8_cellOf.1 ∈ lw_tbl := inT_2 _ (List.mem_of_getElem? (i := 167) rfl)
set_option maxRecDepth 100000 in
theorem lkM_X5_56 : Cond.methodLink "SnowTracks$Player" 56 tX8_come.1 ∈ lw_tbl := inT_2 _ (List.mem_of_getElem? (i := 171) rfl)
set_option maxRecDepth 100000 in
theorem lkM_X5_60 : Cond.methodLink "SnowTracks$Player" 60 tX5_nextCell.1 ∈ lw_tbl := inT_2 _ (List.mem_of_getElem? (i := 175) rfl)
set_option maxRecDepth 100000 in
theorem lkM_X6_3 : Cond.methodLink "SnowTracks$RowSearch" 3 Lib.objectInit ∈ lw_tbl := inT_1 _ (List.mem_of_getElem? (i := 124) rfl)
set_option maxRecDepth 100000 in
theorem lkM_X6_30 : Cond.methodLinkNest "SnowTracks$RowSearch" 30 tX4_init.1 "SnowTracks" ∈ lw_tbl := inT_1 _ (List.mem_of_getElem? (i := 126) rfl)
set_option maxRecDepth 100000 in
theorem lkM_X6_31 : Cond.methodLink "SnowTracks$RowSearch" 31 tJ_min.1 ∈ lw_tbl := inT_4 _ (List.mem_of_getElem? (i := 62) rfl)
set_option maxRecDepth 100000 in
theorem lkM_X6_37 : Cond.methodLink "SnowTracks$RowSearch" 37 tX4_copy.1 ∈ lw_tbl := inT_4 _ (List.mem_of_getElem? (i := 63) rfl)
set_option maxRecDepth 100000 in
theorem lkM_X6_41 : Cond.methodLink "SnowTracks$RowSearch" 41 tX6_extend.1 ∈ lw_tbl := inT_4 _ (List.mem_of_getElem? (i := 64) rfl)
set_option maxRecDepth 100000 in
theorem lkM_X6_45 : Cond.methodLinkNest "SnowTracks$RowSearch" 45 tX9_isIn.1 "SnowTracks" ∈ lw_tbl := inT_4 _ (List.mem_of_getElem? (i := 68) rfl)
set_option maxRecDepth 100000 in
theorem lkM_X6_49 : Cond.methodLink "SnowTracks$RowSearch" 49 tX6_rises.1 ∈ lw_tbl := inT_4 _ (List.mem_of_getElem? (i := 69) rfl)
set_option maxRecDepth 100000 in
theorem lkM_X6_53 : Cond.methodLinkNest "SnowTracks$RowSearch" 53 tX9_pointOf.1 "SnowTracks" ∈ lw_tbl := inT_4 _ (List.mem_of_getElem? (i := 73) rfl)
set_option maxRecDepth 100000 in
theorem lkM_X6_57 : Cond.methodLink "SnowTracks$RowSearch" 57 tX4_fits.1 ∈ lw_tbl := inT_4 _ (List.mem_of_getElem? (i := 74) rfl)
set_option maxRecDepth 100000 in
theorem lkM_X6_60 : Cond.methodLink "SnowTracks$RowSearch" 60 tX4_takesGap.1 ∈ lw_tbl := inT_4 _ (List.mem_of_getElem? (i := 75) rfl)
set_option maxRecDepth 100000 in
theorem lkM_X7_3 : Cond.methodLink "SnowTracks$Tape" 3 Lib.objectInit ∈ lw_tbl := inT_1 _ (List.mem_of_getElem? (i := 33) rfl)
set_option maxRecDepth 100000 in
theorem lkM_X7_34 : Cond.methodLink "SnowTracks$Tape" 34 tX7_reads.1 ∈ lw_tbl := inT_2 _ (List.mem_of_getElem? (i := 74) rfl)
set_option maxRecDepth 100000 in
theorem lkM_X7_38 : Cond.methodLink "SnowTracks$Tape" 38 tX7_readsNumber.1 ∈ lw_tbl := inT_2 _ (List.mem_of_getElem? (i := 86) rfl)
set_option maxRecDepth 100000 in
theorem lkM_X7_42 : Cond.methodLink "SnowTracks$Tape" 42 tX7_readsMoves.1 ∈ lw_tbl := inT_2 _ (List.mem_of_getElem? (i := 93) rfl)
set_option maxRecDepth 100000 in
theorem lkM_X7_46 : Cond.methodLink "SnowTracks$Tape" 46 tX7_byteAt.1 ∈ lw_tbl := inT_2 _ (List.mem_of_getElem? (i := 82) rfl)
set_option maxRecDepth 100000 in
theorem lkM_X7_50 : Cond.methodLink "SnowTracks$Tape" 50 tX7_skipBlanks.1 ∈ lw_tbl := inT_2 _ (List.mem_of_getElem? (i := 78) rfl)
set_option maxRecDepth 100000 in
theorem lkM_X7_53 : Cond.methodLink "SnowTracks$Tape" 53 tX7_isDigit.1 ∈ lw_tbl := inT_2 _ (List.mem_of_getElem? (i := 90) rfl)
set_option maxRecDepth 100000 in
theorem lkM_X7_56 : Cond.methodLink "SnowTracks$Tape" 56 tX7_isMove.1 ∈ lw_tbl := inT_2 _ (List.mem_of_getElem? (i := 97) rfl)
set_option maxRecDepth 100000 in
theorem lkM_X8_3 : Cond.methodLink "SnowTracks$Walk" 3 Lib.objectInit ∈ lw_tbl := inT_2 _ (List.mem_of_getElem? (i := 112) rfl)
set_option maxRecDepth 100000 in
theorem lkM_X8_40 : Cond.methodLink "SnowTracks$Walk" 40 tJ_fill.1 ∈ lw_tbl := inT_2 _ (List.mem_of_getElem? (i := 113) rfl)
set_option maxRecDepth 100000 in
theorem lkM_X8_46 : Cond.methodLink "SnowTracks$Walk" 46 tX8_leavePrint.1 ∈ lw_tbl := inT_2 _ (List.mem_of_getElem? (i := 116) rfl)
set_option maxRecDepth 100000 in
theorem lkM_X8_49 : Cond.methodLink "SnowTracks$Walk" 49 tX8_cellOf.1 ∈ lw_tbl := inT_4 _ (List.mem_of_getElem? (i := 49) rfl)
set_option maxRecDepth 100000 in
theorem lkM_L_7 : Cond.methodLink "SnowTracksLaw" 7 tX9_told.1 ∈ lw_tbl := inT_4 _ (List.mem_of_getElem? (i := 92) rfl)
set_option maxRecDepth 100000 in
theorem lkM_L_15 : Cond.methodLink "SnowTracksLaw" 15 tL_cell.1 ∈ lw_tbl := inT_4 _ (List.mem_of_getElem? (i := 85) rfl)
set_option maxRecDepth 100000 in
theorem lkM_L_21 : Cond.methodLink "SnowTracksLaw" 21 tX9_init.1 ∈ lw_tbl := inT_1 _ (List.mem_of_getElem? (i := 22) rfl)
set_option maxRecDepth 100000 in
theorem lkM_L_26 : Cond.methodLink "SnowTracksLaw" 26 tX10_init.1 ∈ lw_tbl := inT_4 _ (List.mem_of_getElem? (i := 159) rfl)
set_option maxRecDepth 100000 in
theorem lkM_L_27 : Cond.methodLink "SnowTracksLaw" 27 tX9_feed.1 ∈ lw_tbl := inT_2 _ (List.mem_of_getElem? (i := 50) rfl)
set_option maxRecDepth 100000 in
theorem lkM_L_31 : Cond.methodLink "SnowTracksLaw" 31 tX10_feed.1 ∈ lw_tbl := inT_5 _ (List.mem_of_getElem? (i := 56) rfl)
set_option maxRecDepth 100000 in
theorem lkM_L_32 : Cond.methodLink "SnowTracksLaw" 32 tX9_end.1 ∈ lw_tbl := inT_2 _ (List.mem_of_getElem? (i := 62) rfl)
set_option maxRecDepth 100000 in
theorem lkM_L_36 : Cond.methodLink "SnowTracksLaw" 36 tX10_end.1 ∈ lw_tbl := inT_5 _ (List.mem_of_getElem? (i := 63) rfl)
set_option maxRecDepth 100000 in
theorem lkM_L_37 : Cond.methodLink "SnowTracksLaw" 37 tX9_fault.1 ∈ lw_tbl := inT_2 _ (List.mem_of_getElem? (i := 66) rfl)
set_option maxRecDepth 100000 in
theorem lkM_L_41 : Cond.methodLink "SnowTracksLaw" 41 tX10_fault.1 ∈ lw_tbl := inT_5 _ (List.mem_of_getElem? (i := 67) rfl)
set_option maxRecDepth 100000 in
theorem lkM_L_42 : Cond.methodLink "SnowTracksLaw" 42 tX9_walk.1 ∈ lw_tbl := inT_2 _ (List.mem_of_getElem? (i := 100) rfl)
set_option maxRecDepth 100000 in
theorem lkM_L_45 : Cond.methodLink "SnowTracksLaw" 45 tX10_walk.1 ∈ lw_tbl := inT_5 _ (List.mem_of_getElem? (i := 120) rfl)
set_option maxRecDepth 100000 in
theorem lkM_L_46 : Cond.methodLink "SnowTracksLaw" 46 tL_told.1 ∈ lw_tbl := inT_4 _ (List.mem_of_getElem? (i := 88) rfl)
set_option maxRecDepth 100000 in
theorem lkM_L_49 : Cond.methodLink "SnowTracksLaw" 49 tX10_told.1 ∈ lw_tbl := inT_5 _ (List.mem_of_getElem? (i := 124) rfl)
set_option maxRecDepth 100000 in
theorem lkM_L_50 : Cond.methodLink "SnowTracksLaw" 50 tX10_thrown.1 ∈ lw_tbl := inT_5 _ (List.mem_of_getElem? (i := 52) rfl)
set_option maxRecDepth 100000 in
theorem lkM_L_53 : Cond.methodLink "SnowTracksLaw" 53 tX9_where.1 ∈ lw_tbl := inT_2 _ (List.mem_of_getElem? (i := 183) rfl)
set_option maxRecDepth 100000 in
theorem lkM_L_56 : Cond.methodLink "SnowTracksLaw" 56 tX10_where.1 ∈ lw_tbl := inT_5 _ (List.mem_of_getElem? (i := 140) rfl)
set_option maxRecDepth 100000 in
theorem lkM_L_57 : Cond.methodLink "SnowTracksLaw" 57 tX9_latest.1 ∈ lw_tbl := inT_2 _ (List.mem_of_getElem? (i := 192) rfl)
set_option maxRecDepth 100000 in
theorem lkM_L_61 : Cond.methodLink "SnowTracksLaw" 61 tX10_latest.1 ∈ lw_tbl := inT_5 _ (List.mem_of_getElem? (i := 144) rfl)
set_option maxRecDepth 100000 in
theorem lkM_L_62 : Cond.methodLink "SnowTracksLaw" 62 tX9_prints.1 ∈ lw_tbl := inT_2 _ (List.mem_of_getElem? (i := 200) rfl)
set_option maxRecDepth 100000 in
theorem lkM_L_65 : Cond.methodLink "SnowTracksLaw" 65 tX10_prints.1 ∈ lw_tbl := inT_5 _ (List.mem_of_getElem? (i := 156) rfl)
set_option maxRecDepth 100000 in
theorem lkM_L_66 : Cond.methodLink "SnowTracksLaw" 66 tX9_fact.1 ∈ lw_tbl := inT_2 _ (List.mem_of_getElem? (i := 208) rfl)
set_option maxRecDepth 100000 in
theorem lkM_L_70 : Cond.methodLink "SnowTracksLaw" 70 tX10_fact.1 ∈ lw_tbl := inT_5 _ (List.mem_of_getElem? (i := 160) rfl)
set_option maxRecDepth 100000 in
theorem lkM_L_71 : Cond.methodLink "SnowTracksLaw" 71 tX9_undo.1 ∈ lw_tbl := inT_3 _ (List.mem_of_getElem? (i := 15) rfl)
set_option maxRecDepth 100000 in
theorem lkM_L_74 : Cond.methodLink "SnowTracksLaw" 74 tX10_undo.1 ∈ lw_tbl := inT_5 _ (List.mem_of_getElem? (i := 173) rfl)
set_option maxRecDepth 100000 in
theorem lkM_L_75 : Cond.methodLink "SnowTracksLaw" 75 tX9_words.1 ∈ lw_tbl := inT_3 _ (List.mem_of_getElem? (i := 19) rfl)
set_option maxRecDepth 100000 in
theorem lkM_L_79 : Cond.methodLink "SnowTracksLaw" 79 tX10_words.1 ∈ lw_tbl := inT_5 _ (List.mem_of_getElem? (i := 177) rfl)
set_option maxRecDepth 100000 in
theorem lkM_L_80 : Cond.methodLink "SnowTracksLaw" 80 tX9_can.1 ∈ lw_tbl := inT_3 _ (List.mem_of_getElem? (i := 23) rfl)
set_option maxRecDepth 100000 in
theorem lkM_L_83 : Cond.methodLink "SnowTracksLaw" 83 tX10_can.1 ∈ lw_tbl := inT_5 _ (List.mem_of_getElem? (i := 181) rfl)
set_option maxRecDepth 100000 in
theorem lkM_L_84 : Cond.methodLink "SnowTracksLaw" 84 tX9_bars.1 ∈ lw_tbl := inT_3 _ (List.mem_of_getElem? (i := 68) rfl)
set_option maxRecDepth 100000 in
theorem lkM_L_87 : Cond.methodLink "SnowTracksLaw" 87 tX10_bars.1 ∈ lw_tbl := inT_5 _ (List.mem_of_getElem? (i := 222) rfl)
set_option maxRecDepth 100000 in
theorem lkM_L_88 : Cond.methodLink "SnowTracksLaw" 88 tX9_core.1 ∈ lw_tbl := inT_3 _ (List.mem_of_getElem? (i := 72) rfl)
set_option maxRecDepth 100000 in
theorem lkM_L_91 : Cond.methodLink "SnowTracksLaw" 91 tX10_core.1 ∈ lw_tbl := inT_5 _ (List.mem_of_getElem? (i := 226) rfl)
set_option maxRecDepth 100000 in
theorem lkM_L_92 : Cond.methodLink "SnowTracksLaw" 92 tX9_liars.1 ∈ lw_tbl := inT_3 _ (List.mem_of_getElem? (i := 102) rfl)
set_option maxRecDepth 100000 in
theorem lkM_L_95 : Cond.methodLink "SnowTracksLaw" 95 tX10_liars.1 ∈ lw_tbl := inT_5 _ (List.mem_of_getElem? (i := 231) rfl)
set_option maxRecDepth 100000 in
theorem lkM_L_96 : Cond.methodLink "SnowTracksLaw" 96 tX9_begins.1 ∈ lw_tbl := inT_3 _ (List.mem_of_getElem? (i := 117) rfl)
set_option maxRecDepth 100000 in
theorem lkM_L_99 : Cond.methodLink "SnowTracksLaw" 99 tX10_begins.1 ∈ lw_tbl := inT_5 _ (List.mem_of_getElem? (i := 239) rfl)
set_option maxRecDepth 100000 in
theorem lkM_L_100 : Cond.methodLink "SnowTracksLaw" 100 tX9_gap.1 ∈ lw_tbl := inT_3 _ (List.mem_of_getElem? (i := 134) rfl)
set_option maxRecDepth 100000 in
theorem lkM_L_104 : Cond.methodLink "SnowTracksLaw" 104 tX10_gap.1 ∈ lw_tbl := inT_6 _ (List.mem_of_getElem? (i := 11) rfl)
set_option maxRecDepth 100000 in
theorem lkM_L_105 : Cond.methodLink "SnowTracksLaw" 105 tX9_crossings.1 ∈ lw_tbl := inT_3 _ (List.mem_of_getElem? (i := 147) rfl)
set_option maxRecDepth 100000 in
theorem lkM_L_108 : Cond.methodLink "SnowTracksLaw" 108 tX10_crossings.1 ∈ lw_tbl := inT_6 _ (List.mem_of_getElem? (i := 24) rfl)
set_option maxRecDepth 100000 in
theorem lkM_L_109 : Cond.methodLink "SnowTracksLaw" 109 tX9_sure.1 ∈ lw_tbl := inT_3 _ (List.mem_of_getElem? (i := 151) rfl)
set_option maxRecDepth 100000 in
theorem lkM_L_112 : Cond.methodLink "SnowTracksLaw" 112 tX10_sure.1 ∈ lw_tbl := inT_6 _ (List.mem_of_getElem? (i := 36) rfl)
set_option maxRecDepth 100000 in
theorem lkM_L_113 : Cond.methodLink "SnowTracksLaw" 113 tX9_ahead.1 ∈ lw_tbl := inT_3 _ (List.mem_of_getElem? (i := 159) rfl)
set_option maxRecDepth 100000 in
theorem lkM_L_116 : Cond.methodLink "SnowTracksLaw" 116 tX10_ahead.1 ∈ lw_tbl := inT_6 _ (List.mem_of_getElem? (i := 44) rfl)
set_option maxRecDepth 100000 in
theorem lkM_L_117 : Cond.methodLink "SnowTracksLaw" 117 tX9_span.1 ∈ lw_tbl := inT_3 _ (List.mem_of_getElem? (i := 163) rfl)
set_option maxRecDepth 100000 in
theorem lkM_L_120 : Cond.methodLink "SnowTracksLaw" 120 tX10_span.1 ∈ lw_tbl := inT_6 _ (List.mem_of_getElem? (i := 48) rfl)
set_option maxRecDepth 100000 in
theorem lkM_L_121 : Cond.methodLink "SnowTracksLaw" 121 tX9_look.1 ∈ lw_tbl := inT_3 _ (List.mem_of_getElem? (i := 171) rfl)
set_option maxRecDepth 100000 in
theorem lkM_L_124 : Cond.methodLink "SnowTracksLaw" 124 tX10_look_.1 ∈ lw_tbl := inT_6 _ (List.mem_of_getElem? (i := 56) rfl)
set_option maxRecDepth 100000 in
theorem lkM_L_125 : Cond.methodLink "SnowTracksLaw" 125 tX9_meets.1 ∈ lw_tbl := inT_3 _ (List.mem_of_getElem? (i := 200) rfl)
set_option maxRecDepth 100000 in
theorem lkM_L_128 : Cond.methodLink "SnowTracksLaw" 128 tX10_meets.1 ∈ lw_tbl := inT_6 _ (List.mem_of_getElem? (i := 72) rfl)
set_option maxRecDepth 100000 in
theorem lkM_L_129 : Cond.methodLink "SnowTracksLaw" 129 tX9_one.1 ∈ lw_tbl := inT_3 _ (List.mem_of_getElem? (i := 204) rfl)
set_option maxRecDepth 100000 in
theorem lkM_L_132 : Cond.methodLink "SnowTracksLaw" 132 tX10_one.1 ∈ lw_tbl := inT_6 _ (List.mem_of_getElem? (i := 76) rfl)
set_option maxRecDepth 100000 in
theorem lkM_L_133 : Cond.methodLink "SnowTracksLaw" 133 tX9_walkers.1 ∈ lw_tbl := inT_3 _ (List.mem_of_getElem? (i := 212) rfl)
set_option maxRecDepth 100000 in
theorem lkM_L_136 : Cond.methodLink "SnowTracksLaw" 136 tX10_walkers.1 ∈ lw_tbl := inT_6 _ (List.mem_of_getElem? (i := 84) rfl)
set_option maxRecDepth 100000 in
theorem lkM_L_137 : Cond.methodLink "SnowTracksLaw" 137 tX9_start.1 ∈ lw_tbl := inT_4 _ (List.mem_of_getElem? (i := 0) rfl)
set_option maxRecDepth 100000 in
theorem lkM_L_141 : Cond.methodLink "SnowTracksLaw" 141 tX10_start.1 ∈ lw_tbl := inT_6 _ (List.mem_of_getElem? (i := 96) rfl)
set_option maxRecDepth 100000 in
theorem lkM_L_142 : Cond.methodLink "SnowTracksLaw" 142 tX9_judge.1 ∈ lw_tbl := inT_4 _ (List.mem_of_getElem? (i := 4) rfl)
set_option maxRecDepth 100000 in
theorem lkM_L_145 : Cond.methodLink "SnowTracksLaw" 145 tX10_judge.1 ∈ lw_tbl := inT_6 _ (List.mem_of_getElem? (i := 100) rfl)
set_option maxRecDepth 100000 in
theorem lkM_L_146 : Cond.methodLink "SnowTracksLaw" 146 tX9_top.1 ∈ lw_tbl := inT_4 _ (List.mem_of_getElem? (i := 12) rfl)
set_option maxRecDepth 100000 in
theorem lkM_L_149 : Cond.methodLink "SnowTracksLaw" 149 tX10_top.1 ∈ lw_tbl := inT_6 _ (List.mem_of_getElem? (i := 108) rfl)
set_option maxRecDepth 100000 in
theorem lkM_L_150 : Cond.methodLink "SnowTracksLaw" 150 tX9_settle.1 ∈ lw_tbl := inT_4 _ (List.mem_of_getElem? (i := 20) rfl)
set_option maxRecDepth 100000 in
theorem lkM_L_153 : Cond.methodLink "SnowTracksLaw" 153 tX10_settle.1 ∈ lw_tbl := inT_6 _ (List.mem_of_getElem? (i := 112) rfl)
set_option maxRecDepth 100000 in
theorem lkM_L_154 : Cond.methodLink "SnowTracksLaw" 154 tX9_snow.1 ∈ lw_tbl := inT_4 _ (List.mem_of_getElem? (i := 24) rfl)
set_option maxRecDepth 100000 in
theorem lkM_L_157 : Cond.methodLink "SnowTracksLaw" 157 tX10_snow.1 ∈ lw_tbl := inT_6 _ (List.mem_of_getElem? (i := 116) rfl)
set_option maxRecDepth 100000 in
theorem lkM_L_158 : Cond.methodLink "SnowTracksLaw" 158 tX9_shown.1 ∈ lw_tbl := inT_4 _ (List.mem_of_getElem? (i := 28) rfl)
set_option maxRecDepth 100000 in
theorem lkM_L_161 : Cond.methodLink "SnowTracksLaw" 161 tX10_shown.1 ∈ lw_tbl := inT_6 _ (List.mem_of_getElem? (i := 120) rfl)
set_option maxRecDepth 100000 in
theorem lkM_L_162 : Cond.methodLink "SnowTracksLaw" 162 tX9_trail.1 ∈ lw_tbl := inT_4 _ (List.mem_of_getElem? (i := 50) rfl)
set_option maxRecDepth 100000 in
theorem lkM_L_165 : Cond.methodLink "SnowTracksLaw" 165 tX10_trail.1 ∈ lw_tbl := inT_6 _ (List.mem_of_getElem? (i := 128) rfl)
set_option maxRecDepth 100000 in
theorem lkM_L_166 : Cond.methodLink "SnowTracksLaw" 166 tX9_orders.1 ∈ lw_tbl := inT_4 _ (List.mem_of_getElem? (i := 54) rfl)
set_option maxRecDepth 100000 in
theorem lkM_L_169 : Cond.methodLink "SnowTracksLaw" 169 tX10_orders.1 ∈ lw_tbl := inT_6 _ (List.mem_of_getElem? (i := 132) rfl)
set_option maxRecDepth 100000 in
theorem lkM_L_170 : Cond.methodLink "SnowTracksLaw" 170 tX9_photo.1 ∈ lw_tbl := inT_4 _ (List.mem_of_getElem? (i := 76) rfl)
set_option maxRecDepth 100000 in
theorem lkM_L_173 : Cond.methodLink "SnowTracksLaw" 173 tX10_photo.1 ∈ lw_tbl := inT_6 _ (List.mem_of_getElem? (i := 140) rfl)
set_option maxRecDepth 100000 in
theorem lkM_L_174 : Cond.methodLink "SnowTracksLaw" 174 tX9_count.1 ∈ lw_tbl := inT_4 _ (List.mem_of_getElem? (i := 81) rfl)
set_option maxRecDepth 100000 in
theorem lkM_L_177 : Cond.methodLink "SnowTracksLaw" 177 tX10_count.1 ∈ lw_tbl := inT_6 _ (List.mem_of_getElem? (i := 146) rfl)
set_option maxRecDepth 100000 in
theorem lkM_X10_3 : Cond.methodLink "SnowTracksModel" 3 tJ_min.1 ∈ lw_tbl := inT_4 _ (List.mem_of_getElem? (i := 166) rfl)
set_option maxRecDepth 100000 in
theorem lkM_X10_9 : Cond.methodLink "SnowTracksModel" 9 tJ_max.1 ∈ lw_tbl := inT_4 _ (List.mem_of_getElem? (i := 167) rfl)
set_option maxRecDepth 100000 in
theorem lkM_X10_12 : Cond.methodLink "SnowTracksModel" 12 Lib.objectInit ∈ lw_tbl := inT_4 _ (List.mem_of_getElem? (i := 162) rfl)
set_option maxRecDepth 100000 in
theorem lkM_X10_73 : Cond.methodLink "SnowTracksModel" 73 tX10_within.1 ∈ lw_tbl := inT_4 _ (List.mem_of_getElem? (i := 163) rfl)
set_option maxRecDepth 100000 in
theorem lkM_X10_90 : Cond.methodLink "SnowTracksModel" 90 tX10_byteOf.1 ∈ lw_tbl := inT_5 _ (List.mem_of_getElem? (i := 60) rfl)
set_option maxRecDepth 100000 in
theorem lkM_X10_100 : Cond.methodLink "SnowTracksModel" 100 tX10_here.1 ∈ lw_tbl := inT_5 _ (List.mem_of_getElem? (i := 83) rfl)
set_option maxRecDepth 100000 in
theorem lkM_X10_107 : Cond.methodLink "SnowTracksModel" 107 tX10_look.1 ∈ lw_tbl := inT_5 _ (List.mem_of_getElem? (i := 79) rfl)
set_option maxRecDepth 100000 in
theorem lkM_X10_110 : Cond.methodLink "SnowTracksModel" 110 tX10_bad.1 ∈ lw_tbl := inT_5 _ (List.mem_of_getElem? (i := 87) rfl)
set_option maxRecDepth 100000 in
theorem lkM_X10_113 : Cond.methodLink "SnowTracksModel" 113 tX10_isDigit.1 ∈ lw_tbl := inT_5 _ (List.mem_of_getElem? (i := 95) rfl)
set_option maxRecDepth 100000 in
theorem lkM_X10_117 : Cond.methodLink "SnowTracksModel" 117 tX10_isStep.1 ∈ lw_tbl := inT_5 _ (List.mem_of_getElem? (i := 102) rfl)
set_option maxRecDepth 100000 in
theorem lkM_X10_120 : Cond.methodLink "SnowTracksModel" 120 tX10_move.1 ∈ lw_tbl := inT_5 _ (List.mem_of_getElem? (i := 105) rfl)
set_option maxRecDepth 100000 in
theorem lkM_X10_124 : Cond.methodLink "SnowTracksModel" 124 tX10_step.1 ∈ lw_tbl := inT_5 _ (List.mem_of_getElem? (i := 109) rfl)
set_option maxRecDepth 100000 in
theorem lkM_X10_131 : Cond.methodLink "SnowTracksModel" 131 tX10_moves.1 ∈ lw_tbl := inT_5 _ (List.mem_of_getElem? (i := 98) rfl)
set_option maxRecDepth 100000 in
theorem lkM_X10_147 : Cond.methodLink "SnowTracksModel" 147 tX10_in.1 ∈ lw_tbl := inT_5 _ (List.mem_of_getElem? (i := 113) rfl)
set_option maxRecDepth 100000 in
theorem lkM_X10_151 : Cond.methodLink "SnowTracksModel" 151 tX10_stand.1 ∈ lw_tbl := inT_5 _ (List.mem_of_getElem? (i := 116) rfl)
set_option maxRecDepth 100000 in
theorem lkM_X10_154 : Cond.methodLink "SnowTracksModel" 154 tX10_sign.1 ∈ lw_tbl := inT_5 _ (List.mem_of_getElem? (i := 75) rfl)
set_option maxRecDepth 100000 in
theorem lkM_X10_157 : Cond.methodLink "SnowTracksModel" 157 tX10_number.1 ∈ lw_tbl := inT_5 _ (List.mem_of_getElem? (i := 91) rfl)
set_option maxRecDepth 100000 in
theorem lkM_X10_161 : Cond.methodLink "SnowTracksModel" 161 tX10_read.1 ∈ lw_tbl := inT_5 _ (List.mem_of_getElem? (i := 71) rfl)
set_option maxRecDepth 100000 in
theorem lkM_X10_168 : Cond.methodLink "SnowTracksModel" 168 tX10_cellAt.1 ∈ lw_tbl := inT_5 _ (List.mem_of_getElem? (i := 136) rfl)
set_option maxRecDepth 100000 in
theorem lkM_X10_171 : Cond.methodLink "SnowTracksModel" 171 tX10_isWalk.1 ∈ lw_tbl := inT_5 _ (List.mem_of_getElem? (i := 128) rfl)
set_option maxRecDepth 100000 in
theorem lkM_X10_174 : Cond.methodLink "SnowTracksModel" 174 tX10_hasPrint.1 ∈ lw_tbl := inT_5 _ (List.mem_of_getElem? (i := 132) rfl)
set_option maxRecDepth 100000 in
theorem lkM_X10_178 : Cond.methodLink "SnowTracksModel" 178 tX10_isCell.1 ∈ lw_tbl := inT_5 _ (List.mem_of_getElem? (i := 148) rfl)
set_option maxRecDepth 100000 in
theorem lkM_X10_181 : Cond.methodLink "SnowTracksModel" 181 tX10_latestIn.1 ∈ lw_tbl := inT_5 _ (List.mem_of_getElem? (i := 152) rfl)
set_option maxRecDepth 100000 in
theorem lkM_X10_184 : Cond.methodLink "SnowTracksModel" 184 tX10_latest.1 ∈ lw_tbl := inT_5 _ (List.mem_of_getElem? (i := 172) rfl)
set_option maxRecDepth 100000 in
theorem lkM_X10_187 : Cond.methodLink "SnowTracksModel" 187 tX10_hasLatest.1 ∈ lw_tbl := inT_5 _ (List.mem_of_getElem? (i := 168) rfl)
set_option maxRecDepth 100000 in
theorem lkM_X10_190 : Cond.methodLink "SnowTracksModel" 190 tX10_mayBe.1 ∈ lw_tbl := inT_5 _ (List.mem_of_getElem? (i := 164) rfl)
set_option maxRecDepth 100000 in
theorem lkM_X10_198 : Cond.methodLink "SnowTracksModel" 198 tX10_least.1 ∈ lw_tbl := inT_5 _ (List.mem_of_getElem? (i := 202) rfl)
set_option maxRecDepth 100000 in
theorem lkM_X10_202 : Cond.methodLink "SnowTracksModel" 202 tX10_made.1 ∈ lw_tbl := inT_5 _ (List.mem_of_getElem? (i := 214) rfl)
set_option maxRecDepth 100000 in
theorem lkM_X10_205 : Cond.methodLink "SnowTracksModel" 205 tX10_above.1 ∈ lw_tbl := inT_5 _ (List.mem_of_getElem? (i := 210) rfl)
set_option maxRecDepth 100000 in
theorem lkM_X10_208 : Cond.methodLink "SnowTracksModel" 208 tX10_begin.1 ∈ lw_tbl := inT_5 _ (List.mem_of_getElem? (i := 197) rfl)
set_option maxRecDepth 100000 in
theorem lkM_X10_211 : Cond.methodLink "SnowTracksModel" 211 tX10_add.1 ∈ lw_tbl := inT_5 _ (List.mem_of_getElem? (i := 206) rfl)
set_option maxRecDepth 100000 in
theorem lkM_X10_214 : Cond.methodLink "SnowTracksModel" 214 tX10_lay.1 ∈ lw_tbl := inT_5 _ (List.mem_of_getElem? (i := 193) rfl)
set_option maxRecDepth 100000 in
theorem lkM_X10_217 : Cond.methodLink "SnowTracksModel" 217 tX10_close.1 ∈ lw_tbl := inT_5 _ (List.mem_of_getElem? (i := 218) rfl)
set_option maxRecDepth 100000 in
theorem lkM_X10_221 : Cond.methodLink "SnowTracksModel" 221 tX10_isSet.1 ∈ lw_tbl := inT_5 _ (List.mem_of_getElem? (i := 185) rfl)
set_option maxRecDepth 100000 in
theorem lkM_X10_224 : Cond.methodLink "SnowTracksModel" 224 tX10_canBe.1 ∈ lw_tbl := inT_5 _ (List.mem_of_getElem? (i := 189) rfl)
set_option maxRecDepth 100000 in
theorem lkM_X10_227 : Cond.methodLink "SnowTracksModel" 227 tJ_bitCount.1 ∈ lw_tbl := inT_5 _ (List.mem_of_getElem? (i := 230) rfl)
set_option maxRecDepth 100000 in
theorem lkM_X10_232 : Cond.methodLink "SnowTracksModel" 232 tX10_wordsOf.1 ∈ lw_tbl := inT_5 _ (List.mem_of_getElem? (i := 235) rfl)
set_option maxRecDepth 100000 in
theorem lkM_X10_235 : Cond.methodLink "SnowTracksModel" 235 tX10_low.1 ∈ lw_tbl := inT_6 _ (List.mem_of_getElem? (i := 3) rfl)
set_option maxRecDepth 100000 in
theorem lkM_X10_238 : Cond.methodLink "SnowTracksModel" 238 tX10_high.1 ∈ lw_tbl := inT_6 _ (List.mem_of_getElem? (i := 7) rfl)
set_option maxRecDepth 100000 in
theorem lkM_X10_241 : Cond.methodLink "SnowTracksModel" 241 tX10_gapLow.1 ∈ lw_tbl := inT_6 _ (List.mem_of_getElem? (i := 15) rfl)
set_option maxRecDepth 100000 in
theorem lkM_X10_244 : Cond.methodLink "SnowTracksModel" 244 tX10_gapHigh.1 ∈ lw_tbl := inT_6 _ (List.mem_of_getElem? (i := 19) rfl)
set_option maxRecDepth 100000 in
theorem lkM_X10_248 : Cond.methodLink "SnowTracksModel" 248 tX10_areTwo.1 ∈ lw_tbl := inT_6 _ (List.mem_of_getElem? (i := 28) rfl)
set_option maxRecDepth 100000 in
theorem lkM_X10_251 : Cond.methodLink "SnowTracksModel" 251 tX10_cross.1 ∈ lw_tbl := inT_6 _ (List.mem_of_getElem? (i := 32) rfl)
set_option maxRecDepth 100000 in
theorem lkM_X10_254 : Cond.methodLink "SnowTracksModel" 254 tX10_sureOf.1 ∈ lw_tbl := inT_6 _ (List.mem_of_getElem? (i := 40) rfl)
set_option maxRecDepth 100000 in
theorem lkM_X10_257 : Cond.methodLink "SnowTracksModel" 257 tX10_spanNow.1 ∈ lw_tbl := inT_6 _ (List.mem_of_getElem? (i := 52) rfl)
set_option maxRecDepth 100000 in
theorem lkM_X10_263 : Cond.methodLink "SnowTracksModel" 263 tX10_weigh.1 ∈ lw_tbl := inT_6 _ (List.mem_of_getElem? (i := 64) rfl)
set_option maxRecDepth 100000 in
theorem lkM_X10_267 : Cond.methodLink "SnowTracksModel" 267 tX10_spanWith.1 ∈ lw_tbl := inT_6 _ (List.mem_of_getElem? (i := 68) rfl)
set_option maxRecDepth 100000 in
theorem lkM_X10_280 : Cond.methodLink "SnowTracksModel" 280 tX10_findLook.1 ∈ lw_tbl := inT_6 _ (List.mem_of_getElem? (i := 60) rfl)
set_option maxRecDepth 100000 in
theorem lkM_X10_283 : Cond.methodLink "SnowTracksModel" 283 tX10_length.1 ∈ lw_tbl := inT_6 _ (List.mem_of_getElem? (i := 80) rfl)
set_option maxRecDepth 100000 in
theorem lkM_X10_289 : Cond.methodLink "SnowTracksModel" 289 tX10_seek.1 ∈ lw_tbl := inT_6 _ (List.mem_of_getElem? (i := 88) rfl)
set_option maxRecDepth 100000 in
theorem lkM_X10_292 : Cond.methodLink "SnowTracksModel" 292 tX10_isTaken.1 ∈ lw_tbl := inT_6 _ (List.mem_of_getElem? (i := 92) rfl)
set_option maxRecDepth 100000 in
theorem lkM_X10_295 : Cond.methodLink "SnowTracksModel" 295 tX10_holds.1 ∈ lw_tbl := inT_6 _ (List.mem_of_getElem? (i := 104) rfl)
set_option maxRecDepth 100000 in
theorem lkM_X10_301 : Cond.methodLink "SnowTracksModel" 301 tX10_shownIn.1 ∈ lw_tbl := inT_6 _ (List.mem_of_getElem? (i := 124) rfl)
set_option maxRecDepth 100000 in
theorem lkM_X10_313 : Cond.methodLink "SnowTracksModel" 313 tX10_rise.1 ∈ lw_tbl := inT_6 _ (List.mem_of_getElem? (i := 136) rfl)
set_option maxRecDepth 100000 in
theorem lkM_X10_316 : Cond.methodLink "SnowTracksModel" 316 tX10_prints.1 ∈ lw_tbl := inT_6 _ (List.mem_of_getElem? (i := 144) rfl)
set_option maxRecDepth 100000 in
theorem lkM_X10_319 : Cond.methodLink "SnowTracksModel" 319 tX10_fact.1 ∈ lw_tbl := inT_6 _ (List.mem_of_getElem? (i := 145) rfl)
set_option maxRecDepth 100000 in
theorem lkC_X9_9 : Cond.classLink "SnowTracks" 9 "SnowTracks$Tape" ∈ lw_tbl := inT_1 _ (List.mem_of_getElem? (i := 28) rfl)
set_option maxRecDepth 100000 in
theorem lkC_X9_16 : Cond.classLink "SnowTracks" 16 "SnowTracks$Walk" ∈ lw_tbl := inT_1 _ (List.mem_of_getElem? (i := 62) rfl)
set_option maxRecDepth 100000 in
theorem lkC_X9_26 : Cond.classLink "SnowTracks" 26 "SnowTracks$Fact" ∈ lw_tbl := inT_1 _ (List.mem_of_getElem? (i := 64) rfl)
set_option maxRecDepth 100000 in
theorem lkC_X9_42 : Cond.classLink "SnowTracks" 42 "SnowTracks$Net" ∈ lw_tbl := inT_1 _ (List.mem_of_getElem? (i := 66) rfl)
set_option maxRecDepth 100000 in
theorem lkC_X9_49 : Cond.classLink "SnowTracks" 49 "SnowTracks$CoreSearch" ∈ lw_tbl := inT_1 _ (List.mem_of_getElem? (i := 81) rfl)
set_option maxRecDepth 100000 in
theorem lkC_X9_56 : Cond.classLink "SnowTracks" 56 "SnowTracks$ChainSearch" ∈ lw_tbl := inT_1 _ (List.mem_of_getElem? (i := 94) rfl)
set_option maxRecDepth 100000 in
theorem lkC_X9_63 : Cond.classLink "SnowTracks" 63 "SnowTracks$RowSearch" ∈ lw_tbl := inT_1 _ (List.mem_of_getElem? (i := 119) rfl)
set_option maxRecDepth 100000 in
theorem lkC_X9_70 : Cond.classLink "SnowTracks" 70 "SnowTracks$Glance" ∈ lw_tbl := inT_1 _ (List.mem_of_getElem? (i := 145) rfl)
set_option maxRecDepth 100000 in
theorem lkC_X9_101 : Cond.classLink "SnowTracks" 101 "SnowTracks$Player" ∈ lw_tbl := inT_1 _ (List.mem_of_getElem? (i := 174) rfl)
set_option maxRecDepth 100000 in
theorem lkC_X9_147 : Cond.classLink "SnowTracks" 147 "java/util/NoSuchElementException" ∈ lw_tbl := inT_4 _ (List.mem_of_getElem? (i := 96) rfl)
set_option maxRecDepth 100000 in
theorem lkC_X0_9 : Cond.classLink "SnowTracks$ChainSearch" 9 "SnowTracks$Net" ∈ lw_tbl := inT_1 _ (List.mem_of_getElem? (i := 100) rfl)
set_option maxRecDepth 100000 in
theorem lkC_X6_9 : Cond.classLink "SnowTracks$RowSearch" 9 "SnowTracks$Net" ∈ lw_tbl := inT_1 _ (List.mem_of_getElem? (i := 125) rfl)
set_option maxRecDepth 100000 in
theorem lkC_L_8 : Cond.classLink "SnowTracksLaw" 8 "SnowTracks" ∈ lw_tbl := inT_1 _ (List.mem_of_getElem? (i := 20) rfl)
set_option maxRecDepth 100000 in
theorem lkC_L_13 : Cond.classLink "SnowTracksLaw" 13 "java/util/NoSuchElementException" ∈ lw_tbl := inT_4 _ (List.mem_of_getElem? (i := 91) rfl)
set_option maxRecDepth 100000 in
theorem lkC_L_24 : Cond.classLink "SnowTracksLaw" 24 "SnowTracksModel" ∈ lw_tbl := inT_4 _ (List.mem_of_getElem? (i := 157) rfl)
set_option maxRecDepth 100000 in
theorem ins0 : Cond.instantiable RX0 5 ∈ lw_tbl := inT_1 _ (List.mem_of_getElem? (i := 95) rfl)
set_option maxRecDepth 100000 in
theorem ini0 : Cond.initialized RX0 ∈ lw_tbl := inT_1 _ (List.mem_of_getElem? (i := 5) rfl)
set_option maxRecDepth 100000 in
theorem ins1 : Cond.instantiable RX1 2 ∈ lw_tbl := inT_1 _ (List.mem_of_getElem? (i := 82) rfl)
set_option maxRecDepth 100000 in
theorem ini1 : Cond.initialized RX1 ∈ lw_tbl := inT_1 _ (List.mem_of_getElem? (i := 4) rfl)
set_option maxRecDepth 100000 in
theorem ins2 : Cond.instantiable RX2 5 ∈ lw_tbl := inT_1 _ (List.mem_of_getElem? (i := 199) rfl)
set_option maxRecDepth 100000 in
theorem ini2 : Cond.initialized RX2 ∈ lw_tbl := inT_1 _ (List.mem_of_getElem? (i := 10) rfl)
set_option maxRecDepth 100000 in
theorem ins3 : Cond.instantiable RX3 4 ∈ lw_tbl := inT_1 _ (List.mem_of_getElem? (i := 146) rfl)
set_option maxRecDepth 100000 in
theorem ini3 : Cond.initialized RX3 ∈ lw_tbl := inT_1 _ (List.mem_of_getElem? (i := 7) rfl)
set_option maxRecDepth 100000 in
theorem ins4 : Cond.instantiable RX4 2 ∈ lw_tbl := inT_1 _ (List.mem_of_getElem? (i := 67) rfl)
set_option maxRecDepth 100000 in
theorem ini4 : Cond.initialized RX4 ∈ lw_tbl := inT_1 _ (List.mem_of_getElem? (i := 3) rfl)
set_option maxRecDepth 100000 in
theorem ins5 : Cond.instantiable RX5 6 ∈ lw_tbl := inT_1 _ (List.mem_of_getElem? (i := 175) rfl)
set_option maxRecDepth 100000 in
theorem ini5 : Cond.initialized RX5 ∈ lw_tbl := inT_1 _ (List.mem_of_getElem? (i := 9) rfl)
set_option maxRecDepth 100000 in
theorem ins6 : Cond.instantiable RX6 5 ∈ lw_tbl := inT_1 _ (List.mem_of_getElem? (i := 120) rfl)
set_option maxRecDepth 100000 in
theorem ini6 : Cond.initialized RX6 ∈ lw_tbl := inT_1 _ (List.mem_of_getElem? (i := 6) rfl)
set_option maxRecDepth 100000 in
theorem ins7 : Cond.instantiable RX7 7 ∈ lw_tbl := inT_1 _ (List.mem_of_getElem? (i := 29) rfl)
set_option maxRecDepth 100000 in
theorem ini7 : Cond.initialized RX7 ∈ lw_tbl := inT_1 _ (List.mem_of_getElem? (i := 2) rfl)
set_option maxRecDepth 100000 in
theorem ins8 : Cond.instantiable RX8 9 ∈ lw_tbl := inT_2 _ (List.mem_of_getElem? (i := 104) rfl)
set_option maxRecDepth 100000 in
theorem ini8 : Cond.initialized RX8 ∈ lw_tbl := inT_1 _ (List.mem_of_getElem? (i := 12) rfl)
set_option maxRecDepth 100000 in
theorem ins9 : Cond.instantiable RX9 18 ∈ lw_tbl := inT_1 _ (List.mem_of_getElem? (i := 21) rfl)
set_option maxRecDepth 100000 in
theorem ini9 : Cond.initialized RX9 ∈ lw_tbl := inT_1 _ (List.mem_of_getElem? (i := 1) rfl)
set_option maxRecDepth 100000 in
theorem ins10 : Cond.instantiable RX10 41 ∈ lw_tbl := inT_4 _ (List.mem_of_getElem? (i := 158) rfl)
set_option maxRecDepth 100000 in
theorem ini10 : Cond.initialized RX10 ∈ lw_tbl := inT_1 _ (List.mem_of_getElem? (i := 11) rfl)
set_option maxRecDepth 100000 in
theorem ar11 : Cond.arrayClass (newarray.typeOf .int) ∈ lw_tbl := inT_1 _ (List.mem_of_getElem? (i := 61) rfl)
set_option maxRecDepth 100000 in
theorem ar12 : Cond.arrayClass (newarray.typeOf .long) ∈ lw_tbl := inT_6 _ (List.mem_of_getElem? (i := 150) rfl)
