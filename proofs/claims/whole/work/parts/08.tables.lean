set_option maxRecDepth 100000 in
theorem inS : ∀ w ∈ k2_sels lw_privs, w ∈ lw_tbl := fun w hw => List.mem_append_left _ hw
set_option maxRecDepth 100000 in
theorem inT_1 : ∀ w ∈ tables_1_1, w ∈ lw_tbl := fun w hw => List.mem_append_right _ (List.mem_append_left _ hw)
set_option maxRecDepth 100000 in
theorem inT_2 : ∀ w ∈ tables_1_2, w ∈ lw_tbl := fun w hw => List.mem_append_right _ (List.mem_append_right _ (List.mem_append_left _ hw))
set_option maxRecDepth 100000 in
theorem inT_3 : ∀ w ∈ tables_1_3, w ∈ lw_tbl := fun w hw => List.mem_append_right _ (List.mem_append_right _ (List.mem_append_right _ (List.mem_append_left _ hw)))
set_option maxRecDepth 100000 in
theorem inT_4 : ∀ w ∈ tables_1_4, w ∈ lw_tbl := fun w hw => List.mem_append_right _ (List.mem_append_right _ (List.mem_append_right _ (List.mem_append_right _ (List.mem_append_left _ hw))))
set_option maxRecDepth 100000 in
theorem inT_5 : ∀ w ∈ tables_1_5, w ∈ lw_tbl := fun w hw => List.mem_append_right _ (List.mem_append_right _ (List.mem_append_right _ (List.mem_append_right _ (List.mem_append_right _ (List.mem_append_left _ hw)))))
set_option maxRecDepth 100000 in
theorem inT_6 : ∀ w ∈ tables_1_6, w ∈ lw_tbl := fun w hw => List.mem_append_right _ (List.mem_append_right _ (List.mem_append_right _ (List.mem_append_right _ (List.mem_append_right _ (List.mem_append_right _ (hw))))))
set_option maxRecDepth 100000 in
theorem luX0 : ∀ w ∈ u_ws RX0 TX0 5, w ∈ lw_tbl := by
  intro w hw
  obtain ⟨k, hk, rfl⟩ := List.mem_map.mp hw
  have hk := List.mem_range.mp hk
  match k, hk with
  | 0, _ => exact inT_1 _ (List.mem_of_getElem? (i := 108) rfl)
  | 1, _ => exact inT_1 _ (List.mem_of_getElem? (i := 110) rfl)
  | 2, _ => exact inT_1 _ (List.mem_of_getElem? (i := 112) rfl)
  | 3, _ => exact inT_1 _ (List.mem_of_getElem? (i := 114) rfl)
  | 4, _ => exact inT_1 _ (List.mem_of_getElem? (i := 116) rfl)
  | j + 5, h => omega
set_option maxRecDepth 100000 in
theorem luX1 : ∀ w ∈ u_ws RX1 TX1 2, w ∈ lw_tbl := by
  intro w hw
  obtain ⟨k, hk, rfl⟩ := List.mem_map.mp hw
  have hk := List.mem_range.mp hk
  match k, hk with
  | 0, _ => exact inT_1 _ (List.mem_of_getElem? (i := 89) rfl)
  | 1, _ => exact inT_1 _ (List.mem_of_getElem? (i := 91) rfl)
  | j + 2, h => omega
set_option maxRecDepth 100000 in
theorem luX2 : ∀ w ∈ u_ws RX2 TX2 5, w ∈ lw_tbl := by
  intro w hw
  obtain ⟨k, hk, rfl⟩ := List.mem_map.mp hw
  have hk := List.mem_range.mp hk
  match k, hk with
  | 0, _ => exact inT_1 _ (List.mem_of_getElem? (i := 224) rfl)
  | 1, _ => exact inT_1 _ (List.mem_of_getElem? (i := 226) rfl)
  | 2, _ => exact inT_1 _ (List.mem_of_getElem? (i := 228) rfl)
  | 3, _ => exact inT_1 _ (List.mem_of_getElem? (i := 230) rfl)
  | 4, _ => exact inT_1 _ (List.mem_of_getElem? (i := 232) rfl)
  | j + 5, h => omega
set_option maxRecDepth 100000 in
theorem luX3 : ∀ w ∈ u_ws RX3 TX3 4, w ∈ lw_tbl := by
  intro w hw
  obtain ⟨k, hk, rfl⟩ := List.mem_map.mp hw
  have hk := List.mem_range.mp hk
  match k, hk with
  | 0, _ => exact inT_1 _ (List.mem_of_getElem? (i := 159) rfl)
  | 1, _ => exact inT_1 _ (List.mem_of_getElem? (i := 161) rfl)
  | 2, _ => exact inT_1 _ (List.mem_of_getElem? (i := 163) rfl)
  | 3, _ => exact inT_1 _ (List.mem_of_getElem? (i := 165) rfl)
  | j + 4, h => omega
set_option maxRecDepth 100000 in
theorem luX4 : ∀ w ∈ u_ws RX4 TX4 2, w ∈ lw_tbl := by
  intro w hw
  obtain ⟨k, hk, rfl⟩ := List.mem_map.mp hw
  have hk := List.mem_range.mp hk
  match k, hk with
  | 0, _ => exact inT_1 _ (List.mem_of_getElem? (i := 76) rfl)
  | 1, _ => exact inT_1 _ (List.mem_of_getElem? (i := 78) rfl)
  | j + 2, h => omega
set_option maxRecDepth 100000 in
theorem luX5 : ∀ w ∈ u_ws RX5 TX5 6, w ∈ lw_tbl := by
  intro w hw
  obtain ⟨k, hk, rfl⟩ := List.mem_map.mp hw
  have hk := List.mem_range.mp hk
  match k, hk with
  | 0, _ => exact inT_1 _ (List.mem_of_getElem? (i := 186) rfl)
  | 1, _ => exact inT_1 _ (List.mem_of_getElem? (i := 188) rfl)
  | 2, _ => exact inT_1 _ (List.mem_of_getElem? (i := 190) rfl)
  | 3, _ => exact inT_1 _ (List.mem_of_getElem? (i := 192) rfl)
  | 4, _ => exact inT_1 _ (List.mem_of_getElem? (i := 194) rfl)
  | 5, _ => exact inT_1 _ (List.mem_of_getElem? (i := 196) rfl)
  | j + 6, h => omega
set_option maxRecDepth 100000 in
theorem luX6 : ∀ w ∈ u_ws RX6 TX6 5, w ∈ lw_tbl := by
  intro w hw
  obtain ⟨k, hk, rfl⟩ := List.mem_map.mp hw
  have hk := List.mem_range.mp hk
  match k, hk with
  | 0, _ => exact inT_1 _ (List.mem_of_getElem? (i := 134) rfl)
  | 1, _ => exact inT_1 _ (List.mem_of_getElem? (i := 136) rfl)
  | 2, _ => exact inT_1 _ (List.mem_of_getElem? (i := 138) rfl)
  | 3, _ => exact inT_1 _ (List.mem_of_getElem? (i := 140) rfl)
  | 4, _ => exact inT_1 _ (List.mem_of_getElem? (i := 142) rfl)
  | j + 5, h => omega
set_option maxRecDepth 100000 in
theorem luX7 : ∀ w ∈ u_ws RX7 TX7 7, w ∈ lw_tbl := by
  intro w hw
  obtain ⟨k, hk, rfl⟩ := List.mem_map.mp hw
  have hk := List.mem_range.mp hk
  match k, hk with
  | 0, _ => exact inT_1 _ (List.mem_of_getElem? (i := 46) rfl)
  | 1, _ => exact inT_1 _ (List.mem_of_getElem? (i := 48) rfl)
  | 2, _ => exact inT_1 _ (List.mem_of_getElem? (i := 50) rfl)
  | 3, _ => exact inT_1 _ (List.mem_of_getElem? (i := 52) rfl)
  | 4, _ => exact inT_1 _ (List.mem_of_getElem? (i := 54) rfl)
  | 5, _ => exact inT_1 _ (List.mem_of_getElem? (i := 56) rfl)
  | 6, _ => exact inT_1 _ (List.mem_of_getElem? (i := 58) rfl)
  | j + 7, h => omega
set_option maxRecDepth 100000 in
theorem luX8 : ∀ w ∈ u_ws RX8 TX8 9, w ∈ lw_tbl := by
  intro w hw
  obtain ⟨k, hk, rfl⟩ := List.mem_map.mp hw
  have hk := List.mem_range.mp hk
  match k, hk with
  | 0, _ => exact inT_2 _ (List.mem_of_getElem? (i := 138) rfl)
  | 1, _ => exact inT_2 _ (List.mem_of_getElem? (i := 140) rfl)
  | 2, _ => exact inT_2 _ (List.mem_of_getElem? (i := 142) rfl)
  | 3, _ => exact inT_2 _ (List.mem_of_getElem? (i := 144) rfl)
  | 4, _ => exact inT_2 _ (List.mem_of_getElem? (i := 146) rfl)
  | 5, _ => exact inT_2 _ (List.mem_of_getElem? (i := 148) rfl)
  | 6, _ => exact inT_2 _ (List.mem_of_getElem? (i := 150) rfl)
  | 7, _ => exact inT_2 _ (List.mem_of_getElem? (i := 152) rfl)
  | 8, _ => exact inT_2 _ (List.mem_of_getElem? (i := 154) rfl)
  | j + 9, h => omega
set_option maxRecDepth 100000 in
theorem luX9 : ∀ w ∈ u_ws RX9 TX9 18, w ∈ lw_tbl := by
  intro w hw
  obtain ⟨k, hk, rfl⟩ := List.mem_map.mp hw
  have hk := List.mem_range.mp hk
  match k, hk with
  | 0, _ => exact inT_2 _ (List.mem_of_getElem? (i := 13) rfl)
  | 1, _ => exact inT_2 _ (List.mem_of_getElem? (i := 15) rfl)
  | 2, _ => exact inT_2 _ (List.mem_of_getElem? (i := 17) rfl)
  | 3, _ => exact inT_2 _ (List.mem_of_getElem? (i := 19) rfl)
  | 4, _ => exact inT_2 _ (List.mem_of_getElem? (i := 21) rfl)
  | 5, _ => exact inT_2 _ (List.mem_of_getElem? (i := 23) rfl)
  | 6, _ => exact inT_2 _ (List.mem_of_getElem? (i := 25) rfl)
  | 7, _ => exact inT_2 _ (List.mem_of_getElem? (i := 27) rfl)
  | 8, _ => exact inT_2 _ (List.mem_of_getElem? (i := 29) rfl)
  | 9, _ => exact inT_2 _ (List.mem_of_getElem? (i := 31) rfl)
  | 10, _ => exact inT_2 _ (List.mem_of_getElem? (i := 33) rfl)
  | 11, _ => exact inT_2 _ (List.mem_of_getElem? (i := 35) rfl)
  | 12, _ => exact inT_2 _ (List.mem_of_getElem? (i := 37) rfl)
  | 13, _ => exact inT_2 _ (List.mem_of_getElem? (i := 39) rfl)
  | 14, _ => exact inT_2 _ (List.mem_of_getElem? (i := 41) rfl)
  | 15, _ => exact inT_2 _ (List.mem_of_getElem? (i := 43) rfl)
  | 16, _ => exact inT_2 _ (List.mem_of_getElem? (i := 45) rfl)
  | 17, _ => exact inT_2 _ (List.mem_of_getElem? (i := 47) rfl)
  | j + 18, h => omega
set_option maxRecDepth 100000 in
theorem luX10 : ∀ w ∈ u_ws RX10 TX10 41, w ∈ lw_tbl := by
  intro w hw
  obtain ⟨k, hk, rfl⟩ := List.mem_map.mp hw
  have hk := List.mem_range.mp hk
  match k, hk with
  | 0, _ => exact inT_4 _ (List.mem_of_getElem? (i := 209) rfl)
  | 1, _ => exact inT_4 _ (List.mem_of_getElem? (i := 211) rfl)
  | 2, _ => exact inT_4 _ (List.mem_of_getElem? (i := 213) rfl)
  | 3, _ => exact inT_4 _ (List.mem_of_getElem? (i := 215) rfl)
  | 4, _ => exact inT_4 _ (List.mem_of_getElem? (i := 217) rfl)
  | 5, _ => exact inT_4 _ (List.mem_of_getElem? (i := 219) rfl)
  | 6, _ => exact inT_4 _ (List.mem_of_getElem? (i := 221) rfl)
  | 7, _ => exact inT_4 _ (List.mem_of_getElem? (i := 223) rfl)
  | 8, _ => exact inT_4 _ (List.mem_of_getElem? (i := 225) rfl)
  | 9, _ => exact inT_4 _ (List.mem_of_getElem? (i := 227) rfl)
  | 10, _ => exact inT_4 _ (List.mem_of_getElem? (i := 229) rfl)
  | 11, _ => exact inT_4 _ (List.mem_of_getElem? (i := 231) rfl)
  | 12, _ => exact inT_4 _ (List.mem_of_getElem? (i := 233) rfl)
  | 13, _ => exact inT_4 _ (List.mem_of_getElem? (i := 235) rfl)
  | 14, _ => exact inT_4 _ (List.mem_of_getElem? (i := 237) rfl)
  | 15, _ => exact inT_4 _ (List.mem_of_getElem? (i := 239) rfl)
  | 16, _ => exact inT_5 _ (List.mem_of_getElem? (i := 1) rfl)
  | 17, _ => exact inT_5 _ (List.mem_of_getElem? (i := 3) rfl)
  | 18, _ => exact inT_5 _ (List.mem_of_getElem? (i := 5) rfl)
  | 19, _ => exact inT_5 _ (List.mem_of_getElem? (i := 7) rfl)
  | 20, _ => exact inT_5 _ (List.mem_of_getElem? (i := 9) rfl)
  | 21, _ => exact inT_5 _ (List.mem_of_getElem? (i := 11) rfl)
  | 22, _ => exact inT_5 _ (List.mem_of_getElem? (i := 13) rfl)
  | 23, _ => exact inT_5 _ (List.mem_of_getElem? (i := 15) rfl)
  | 24, _ => exact inT_5 _ (List.mem_of_getElem? (i := 17) rfl)
  | 25, _ => exact inT_5 _ (List.mem_of_getElem? (i := 19) rfl)
  | 26, _ => exact inT_5 _ (List.mem_of_getElem? (i := 21) rfl)
  | 27, _ => exact inT_5 _ (List.mem_of_getElem? (i := 23) rfl)
  | 28, _ => exact inT_5 _ (List.mem_of_getElem? (i := 25) rfl)
  | 29, _ => exact inT_5 _ (List.mem_of_getElem? (i := 27) rfl)
  | 30, _ => exact inT_5 _ (List.mem_of_getElem? (i := 29) rfl)
  | 31, _ => exact inT_5 _ (List.mem_of_getElem? (i := 31) rfl)
  | 32, _ => exact inT_5 _ (List.mem_of_getElem? (i := 33) rfl)
  | 33, _ => exact inT_5 _ (List.mem_of_getElem? (i := 35) rfl)
  | 34, _ => exact inT_5 _ (List.mem_of_getElem? (i := 37) rfl)
  | 35, _ => exact inT_5 _ (List.mem_of_getElem? (i := 39) rfl)
  | 36, _ => exact inT_5 _ (List.mem_of_getElem? (i := 41) rfl)
  | 37, _ => exact inT_5 _ (List.mem_of_getElem? (i := 43) rfl)
  | 38, _ => exact inT_5 _ (List.mem_of_getElem? (i := 45) rfl)
  | 39, _ => exact inT_5 _ (List.mem_of_getElem? (i := 47) rfl)
  | 40, _ => exact inT_5 _ (List.mem_of_getElem? (i := 49) rfl)
  | j + 41, h => omega
set_option maxRecDepth 100000 in
theorem ciX0 : CI 0 RX0 TX0 5 tyX0 := ⟨rfl, fun w hw => List.mem_filter.mpr ⟨luX0 w hw, List.all_eq_true.mp (show (u_ws RX0 TX0 5).all goodWord = true by decide +kernel) w hw⟩, tyX0_ok, nmX0, by decide +kernel⟩
set_option maxRecDepth 100000 in
theorem ciX1 : CI 1 RX1 TX1 2 tyX1 := ⟨rfl, fun w hw => List.mem_filter.mpr ⟨luX1 w hw, List.all_eq_true.mp (show (u_ws RX1 TX1 2).all goodWord = true by decide +kernel) w hw⟩, tyX1_ok, nmX1, by decide +kernel⟩
set_option maxRecDepth 100000 in
theorem ciX2 : CI 2 RX2 TX2 5 tyX2 := ⟨rfl, fun w hw => List.mem_filter.mpr ⟨luX2 w hw, List.all_eq_true.mp (show (u_ws RX2 TX2 5).all goodWord = true by decide +kernel) w hw⟩, tyX2_ok, nmX2, by decide +kernel⟩
set_option maxRecDepth 100000 in
theorem ciX3 : CI 3 RX3 TX3 4 tyX3 := ⟨rfl, fun w hw => List.mem_filter.mpr ⟨luX3 w hw, List.all_eq_true.mp (show (u_ws RX3 TX3 4).all goodWord = true by decide +kernel) w hw⟩, tyX3_ok, nmX3, by decide +kernel⟩
set_option maxRecDepth 100000 in
theorem ciX4 : CI 4 RX4 TX4 2 tyX4 := ⟨rfl, fun w hw => List.mem_filter.mpr ⟨luX4 w hw, List.all_eq_true.mp (show (u_ws RX4 TX4 2).all goodWord = true by decide +kernel) w hw⟩, tyX4_ok, nmX4, by decide +kernel⟩
set_option maxRecDepth 100000 in
theorem ciX5 : CI 5 RX5 TX5 6 tyX5 := ⟨rfl, fun w hw => List.mem_filter.mpr ⟨luX5 w hw, List.all_eq_true.mp (show (u_ws RX5 TX5 6).all goodWord = true by decide +kernel) w hw⟩, tyX5_ok, nmX5, by decide +kernel⟩
set_option maxRecDepth 100000 in
theorem ciX6 : CI 6 RX6 TX6 5 tyX6 := ⟨rfl, fun w hw => List.mem_filter.mpr ⟨luX6 w hw, List.all_eq_true.mp (show (u_ws RX6 TX6 5).all goodWord = true by decide +kernel) w hw⟩, tyX6_ok, nmX6, by decide +kernel⟩
set_option maxRecDepth 100000 in
theorem ciX7 : CI 7 RX7 TX7 7 tyX7 := ⟨rfl, fun w hw => List.mem_filter.mpr ⟨luX7 w hw, List.all_eq_true.mp (show (u_ws RX7 TX7 7).all goodWord = true by decide +kernel) w hw⟩, tyX7_ok, nmX7, by decide +kernel⟩
set_option maxRecDepth 100000 in
theorem ciX8 : CI 8 RX8 TX8 9 tyX8 := ⟨rfl, fun w hw => List.mem_filter.mpr ⟨luX8 w hw, List.all_eq_true.mp (show (u_ws RX8 TX8 9).all goodWord = true by decide +kernel) w hw⟩, tyX8_ok, nmX8, by decide +kernel⟩
set_option maxRecDepth 100000 in
theorem ciX9 : CI 9 RX9 TX9 18 tyX9 := ⟨rfl, fun w hw => List.mem_filter.mpr ⟨luX9 w hw, List.all_eq_true.mp (show (u_ws RX9 TX9 18).all goodWord = true by decide +kernel) w hw⟩, tyX9_ok, nmX9, by decide +kernel⟩
set_option maxRecDepth 100000 in
theorem ciX10 : CI 10 RX10 TX10 41 tyX10 := ⟨rfl, fun w hw => List.mem_filter.mpr ⟨luX10 w hw, List.all_eq_true.mp (show (u_ws RX10 TX10 41).all goodWord = true by decide +kernel) w hw⟩, tyX10_ok, nmX10, by decide +kernel⟩
def tJ_bitCount : Mt := (yJ6_bitCount_0f7a4, cJ6_bitCount_0f7a4, 1, (some .int))
set_option maxRecDepth 100000 in
theorem mfJ_bitCount : MF tJ_bitCount 1 := ⟨inT_3 _ (List.mem_of_getElem? (i := 78) rfl), inT_1 _ (List.mem_of_getElem? (i := 18) rfl), by decide +kernel⟩
set_option maxRecDepth 100000 in
theorem smJ_bitCount : Cond.static tJ_bitCount.1 ∈ lw_tbl := inT_3 _ (List.mem_of_getElem? (i := 77) rfl)
def tJ_fill : Mt := (yJ7_fill_53178, cJ7_fill_53178, 4, none)
set_option maxRecDepth 100000 in
theorem mfJ_fill : MF tJ_fill 2 := ⟨inT_2 _ (List.mem_of_getElem? (i := 115) rfl), inT_1 _ (List.mem_of_getElem? (i := 13) rfl), by decide +kernel⟩
set_option maxRecDepth 100000 in
theorem smJ_fill : Cond.static tJ_fill.1 ∈ lw_tbl := inT_2 _ (List.mem_of_getElem? (i := 114) rfl)
def tJ_max : Mt := (yJ9_max_7cf53, cJ9_max_7cf53, 2, (some .int))
set_option maxRecDepth 100000 in
theorem mfJ_max : MF tJ_max 2 := ⟨inT_1 _ (List.mem_of_getElem? (i := 173) rfl), inT_1 _ (List.mem_of_getElem? (i := 8) rfl), by decide +kernel⟩
set_option maxRecDepth 100000 in
theorem smJ_max : Cond.static tJ_max.1 ∈ lw_tbl := inT_1 _ (List.mem_of_getElem? (i := 172) rfl)
def tJ_min : Mt := (yJ9_min_7cf53, cJ9_min_7cf53, 2, (some .int))
set_option maxRecDepth 100000 in
theorem mfJ_min : MF tJ_min 2 := ⟨inT_1 _ (List.mem_of_getElem? (i := 170) rfl), inT_1 _ (List.mem_of_getElem? (i := 8) rfl), by decide +kernel⟩
set_option maxRecDepth 100000 in
theorem smJ_min : Cond.static tJ_min.1 ∈ lw_tbl := inT_1 _ (List.mem_of_getElem? (i := 169) rfl)
def tL_cell : Mt := (yL_cell, cL_cell, 2, (some .int))
set_option maxRecDepth 100000 in
theorem mfL_cell : MF tL_cell 2 := ⟨inT_4 _ (List.mem_of_getElem? (i := 87) rfl), inT_1 _ (List.mem_of_getElem? (i := 0) rfl), by decide +kernel⟩
set_option maxRecDepth 100000 in
theorem smL_cell : Cond.static tL_cell.1 ∈ lw_tbl := inT_4 _ (List.mem_of_getElem? (i := 86) rfl)
def tX9_walkOf : Mt := (yX9_walkOf, cX9_walkOf, 2, (some (.object "SnowTracks$Walk")))
set_option maxRecDepth 100000 in
theorem mfX9_walkOf : MF tX9_walkOf 1 := ⟨inT_2 _ (List.mem_of_getElem? (i := 190) rfl), inT_1 _ (List.mem_of_getElem? (i := 1) rfl), by decide +kernel⟩
set_option maxRecDepth 100000 in
theorem imX9_walkOf : Cond.instanceMethod tX9_walkOf.1 ∈ lw_tbl := inT_2 _ (List.mem_of_getElem? (i := 189) rfl)
set_option maxRecDepth 100000 in
theorem selX9_walkOf : Cond.selects RX9 tX9_walkOf.1 tX9_walkOf.1 ∈ lw_tbl := inS _ (List.mem_of_getElem? (i := 8) rfl)
def tX9_told : Mt := (yX9_told, cX9_told, 4, (some .int))
set_option maxRecDepth 100000 in
theorem mfX9_told : MF tX9_told 2 := ⟨inT_4 _ (List.mem_of_getElem? (i := 95) rfl), inT_1 _ (List.mem_of_getElem? (i := 1) rfl), by decide +kernel⟩
set_option maxRecDepth 100000 in
theorem imX9_told : Cond.instanceMethod tX9_told.1 ∈ lw_tbl := inT_4 _ (List.mem_of_getElem? (i := 93) rfl)
set_option maxRecDepth 100000 in
theorem selX9_told : Cond.selects RX9 tX9_told.1 tX9_told.1 ∈ lw_tbl := inT_4 _ (List.mem_of_getElem? (i := 94) rfl)
def tL_told : Mt := (yL_told, cL_told, 5, (some .int))
def tX4_init : Mt := (yX4_init, cX4_init, 1, none)
set_option maxRecDepth 100000 in
theorem mfX4_init : MF tX4_init 0 := ⟨inT_1 _ (List.mem_of_getElem? (i := 70) rfl), inT_1 _ (List.mem_of_getElem? (i := 3) rfl), by decide +kernel⟩
set_option maxRecDepth 100000 in
theorem imX4_init : Cond.instanceMethod tX4_init.1 ∈ lw_tbl := inT_1 _ (List.mem_of_getElem? (i := 69) rfl)
def tX0_init : Mt := (yX0_init, cX0_init, 2, none)
set_option maxRecDepth 100000 in
theorem mfX0_init : MF tX0_init 0 := ⟨inT_1 _ (List.mem_of_getElem? (i := 98) rfl), inT_1 _ (List.mem_of_getElem? (i := 5) rfl), by decide +kernel⟩
set_option maxRecDepth 100000 in
theorem imX0_init : Cond.instanceMethod tX0_init.1 ∈ lw_tbl := inT_1 _ (List.mem_of_getElem? (i := 97) rfl)
def tX4_isPoint : Mt := (yX4_isPoint, cX4_isPoint, 2, (some .boolean))
set_option maxRecDepth 100000 in
theorem mfX4_isPoint : MF tX4_isPoint 1 := ⟨inT_3 _ (List.mem_of_getElem? (i := 58) rfl), inT_1 _ (List.mem_of_getElem? (i := 3) rfl), by decide +kernel⟩
set_option maxRecDepth 100000 in
theorem imX4_isPoint : Cond.instanceMethod tX4_isPoint.1 ∈ lw_tbl := inT_3 _ (List.mem_of_getElem? (i := 56) rfl)
set_option maxRecDepth 100000 in
theorem selX4_isPoint : Cond.selects RX4 tX4_isPoint.1 tX4_isPoint.1 ∈ lw_tbl := inT_3 _ (List.mem_of_getElem? (i := 57) rfl)
def tX4_fits : Mt := (yX4_fits, cX4_fits, 4, (some .boolean))
set_option maxRecDepth 100000 in
theorem mfX4_fits : MF tX4_fits 3 := ⟨inT_3 _ (List.mem_of_getElem? (i := 54) rfl), inT_1 _ (List.mem_of_getElem? (i := 3) rfl), by decide +kernel⟩
set_option maxRecDepth 100000 in
theorem imX4_fits : Cond.instanceMethod tX4_fits.1 ∈ lw_tbl := inT_3 _ (List.mem_of_getElem? (i := 52) rfl)
set_option maxRecDepth 100000 in
theorem selX4_fits : Cond.selects RX4 tX4_fits.1 tX4_fits.1 ∈ lw_tbl := inT_3 _ (List.mem_of_getElem? (i := 53) rfl)
def tX9_pointOf : Mt := (yX9_pointOf, cX9_pointOf, 1, (some .int))
set_option maxRecDepth 100000 in
theorem mfX9_pointOf : MF tX9_pointOf 1 := ⟨inT_2 _ (List.mem_of_getElem? (i := 225) rfl), inT_1 _ (List.mem_of_getElem? (i := 1) rfl), by decide +kernel⟩
set_option maxRecDepth 100000 in
theorem smX9_pointOf : Cond.static tX9_pointOf.1 ∈ lw_tbl := inT_2 _ (List.mem_of_getElem? (i := 224) rfl)
def tX0_mayFollow : Mt := (yX0_mayFollow, cX0_mayFollow, 4, (some .boolean))
set_option maxRecDepth 100000 in
theorem mfX0_mayFollow : MF tX0_mayFollow 3 := ⟨inT_3 _ (List.mem_of_getElem? (i := 236) rfl), inT_1 _ (List.mem_of_getElem? (i := 5) rfl), by decide +kernel⟩
set_option maxRecDepth 100000 in
theorem imX0_mayFollow : Cond.instanceMethod tX0_mayFollow.1 ∈ lw_tbl := inT_3 _ (List.mem_of_getElem? (i := 235) rfl)
set_option maxRecDepth 100000 in
theorem selX0_mayFollow : Cond.selects RX0 tX0_mayFollow.1 tX0_mayFollow.1 ∈ lw_tbl := inS _ (List.mem_of_getElem? (i := 29) rfl)
def tX4_copy : Mt := (yX4_copy, cX4_copy, 2, none)
set_option maxRecDepth 100000 in
theorem mfX4_copy : MF tX4_copy 1 := ⟨inT_3 _ (List.mem_of_getElem? (i := 225) rfl), inT_1 _ (List.mem_of_getElem? (i := 3) rfl), by decide +kernel⟩
set_option maxRecDepth 100000 in
theorem imX4_copy : Cond.instanceMethod tX4_copy.1 ∈ lw_tbl := inT_3 _ (List.mem_of_getElem? (i := 223) rfl)
set_option maxRecDepth 100000 in
theorem selX4_copy : Cond.selects RX4 tX4_copy.1 tX4_copy.1 ∈ lw_tbl := inT_3 _ (List.mem_of_getElem? (i := 224) rfl)
def tX4_least : Mt := (yX4_least, cX4_least, 3, (some .int))
set_option maxRecDepth 100000 in
theorem mfX4_least : MF tX4_least 2 := ⟨inT_3 _ (List.mem_of_getElem? (i := 62) rfl), inT_1 _ (List.mem_of_getElem? (i := 3) rfl), by decide +kernel⟩
set_option maxRecDepth 100000 in
theorem imX4_least : Cond.instanceMethod tX4_least.1 ∈ lw_tbl := inT_3 _ (List.mem_of_getElem? (i := 60) rfl)
set_option maxRecDepth 100000 in
theorem selX4_least : Cond.selects RX4 tX4_least.1 tX4_least.1 ∈ lw_tbl := inT_3 _ (List.mem_of_getElem? (i := 61) rfl)
def tX4_widen : Mt := (yX4_widen, cX4_widen, 6, none)
set_option maxRecDepth 100000 in
theorem mfX4_widen : MF tX4_widen 3 := ⟨inT_3 _ (List.mem_of_getElem? (i := 67) rfl), inT_1 _ (List.mem_of_getElem? (i := 3) rfl), by decide +kernel⟩
set_option maxRecDepth 100000 in
theorem imX4_widen : Cond.instanceMethod tX4_widen.1 ∈ lw_tbl := inT_3 _ (List.mem_of_getElem? (i := 66) rfl)
set_option maxRecDepth 100000 in
theorem selX4_widen : Cond.selects RX4 tX4_widen.1 tX4_widen.1 ∈ lw_tbl := inS _ (List.mem_of_getElem? (i := 19) rfl)
def tX4_takesGap : Mt := (yX4_takesGap, cX4_takesGap, 6, (some .boolean))
set_option maxRecDepth 100000 in
theorem mfX4_takesGap : MF tX4_takesGap 3 := ⟨inT_3 _ (List.mem_of_getElem? (i := 50) rfl), inT_1 _ (List.mem_of_getElem? (i := 3) rfl), by decide +kernel⟩
set_option maxRecDepth 100000 in
theorem imX4_takesGap : Cond.instanceMethod tX4_takesGap.1 ∈ lw_tbl := inT_3 _ (List.mem_of_getElem? (i := 48) rfl)
set_option maxRecDepth 100000 in
theorem selX4_takesGap : Cond.selects RX4 tX4_takesGap.1 tX4_takesGap.1 ∈ lw_tbl := inT_3 _ (List.mem_of_getElem? (i := 49) rfl)
def tX9_isIn : Mt := (yX9_isIn, cX9_isIn, 2, (some .boolean))
set_option maxRecDepth 100000 in
theorem mfX9_isIn : MF tX9_isIn 2 := ⟨inT_3 _ (List.mem_of_getElem? (i := 42) rfl), inT_1 _ (List.mem_of_getElem? (i := 1) rfl), by decide +kernel⟩
set_option maxRecDepth 100000 in
theorem smX9_isIn : Cond.static tX9_isIn.1 ∈ lw_tbl := inT_3 _ (List.mem_of_getElem? (i := 41) rfl)
def tX0_link : Mt := (yX0_link, cX0_link, 7, none)
set_option maxRecDepth 100000 in
theorem mfX0_link : MF tX0_link 3 := ⟨inT_3 _ (List.mem_of_getElem? (i := 230) rfl), inT_1 _ (List.mem_of_getElem? (i := 5) rfl), by decide +kernel⟩
set_option maxRecDepth 100000 in
theorem imX0_link : Cond.instanceMethod tX0_link.1 ∈ lw_tbl := inT_3 _ (List.mem_of_getElem? (i := 229) rfl)
set_option maxRecDepth 100000 in
theorem selX0_link : Cond.selects RX0 tX0_link.1 tX0_link.1 ∈ lw_tbl := inS _ (List.mem_of_getElem? (i := 28) rfl)
def tX8_ticksToEnd : Mt := (yX8_ticksToEnd, cX8_ticksToEnd, 1, (some .int))
set_option maxRecDepth 100000 in
theorem mfX8_ticksToEnd : MF tX8_ticksToEnd 0 := ⟨inT_3 _ (List.mem_of_getElem? (i := 211) rfl), inT_1 _ (List.mem_of_getElem? (i := 12) rfl), by decide +kernel⟩
set_option maxRecDepth 100000 in
theorem imX8_ticksToEnd : Cond.instanceMethod tX8_ticksToEnd.1 ∈ lw_tbl := inT_3 _ (List.mem_of_getElem? (i := 209) rfl)
set_option maxRecDepth 100000 in
theorem selX8_ticksToEnd : Cond.selects RX8 tX8_ticksToEnd.1 tX8_ticksToEnd.1 ∈ lw_tbl := inT_3 _ (List.mem_of_getElem? (i := 210) rfl)
def tX0_mostLinks : Mt := (yX0_mostLinks, cX0_mostLinks, 6, (some .int))
set_option maxRecDepth 100000 in
theorem mfX0_mostLinks : MF tX0_mostLinks 3 := ⟨inT_3 _ (List.mem_of_getElem? (i := 219) rfl), inT_1 _ (List.mem_of_getElem? (i := 5) rfl), by decide +kernel⟩
set_option maxRecDepth 100000 in
theorem imX0_mostLinks : Cond.instanceMethod tX0_mostLinks.1 ∈ lw_tbl := inT_3 _ (List.mem_of_getElem? (i := 217) rfl)
set_option maxRecDepth 100000 in
theorem selX0_mostLinks : Cond.selects RX0 tX0_mostLinks.1 tX0_mostLinks.1 ∈ lw_tbl := inT_3 _ (List.mem_of_getElem? (i := 218) rfl)
def tX10_least : Mt := (yX10_least, cX10_least, 4, none)
set_option maxRecDepth 100000 in
theorem mfX10_least : MF tX10_least 3 := ⟨inT_5 _ (List.mem_of_getElem? (i := 205) rfl), inT_1 _ (List.mem_of_getElem? (i := 11) rfl), by decide +kernel⟩
set_option maxRecDepth 100000 in
theorem imX10_least : Cond.instanceMethod tX10_least.1 ∈ lw_tbl := inT_5 _ (List.mem_of_getElem? (i := 204) rfl)
set_option maxRecDepth 100000 in
theorem selX10_least : Cond.selects RX10 tX10_least.1 tX10_least.1 ∈ lw_tbl := inS _ (List.mem_of_getElem? (i := 58) rfl)
def tX10_cellAt : Mt := (yX10_cellAt, cX10_cellAt, 3, (some .int))
set_option maxRecDepth 100000 in
theorem mfX10_cellAt : MF tX10_cellAt 2 := ⟨inT_5 _ (List.mem_of_getElem? (i := 139) rfl), inT_1 _ (List.mem_of_getElem? (i := 11) rfl), by decide +kernel⟩
set_option maxRecDepth 100000 in
theorem imX10_cellAt : Cond.instanceMethod tX10_cellAt.1 ∈ lw_tbl := inT_5 _ (List.mem_of_getElem? (i := 138) rfl)
set_option maxRecDepth 100000 in
theorem selX10_cellAt : Cond.selects RX10 tX10_cellAt.1 tX10_cellAt.1 ∈ lw_tbl := inS _ (List.mem_of_getElem? (i := 49) rfl)
def tX10_hasPrint : Mt := (yX10_hasPrint, cX10_hasPrint, 3, (some .boolean))
set_option maxRecDepth 100000 in
theorem mfX10_hasPrint : MF tX10_hasPrint 2 := ⟨inT_5 _ (List.mem_of_getElem? (i := 135) rfl), inT_1 _ (List.mem_of_getElem? (i := 11) rfl), by decide +kernel⟩
set_option maxRecDepth 100000 in
theorem imX10_hasPrint : Cond.instanceMethod tX10_hasPrint.1 ∈ lw_tbl := inT_5 _ (List.mem_of_getElem? (i := 134) rfl)
set_option maxRecDepth 100000 in
theorem selX10_hasPrint : Cond.selects RX10 tX10_hasPrint.1 tX10_hasPrint.1 ∈ lw_tbl := inS _ (List.mem_of_getElem? (i := 48) rfl)
def tX10_latestIn : Mt := (yX10_latestIn, cX10_latestIn, 5, (some .int))
set_option maxRecDepth 100000 in
theorem mfX10_latestIn : MF tX10_latestIn 2 := ⟨inT_5 _ (List.mem_of_getElem? (i := 155) rfl), inT_1 _ (List.mem_of_getElem? (i := 11) rfl), by decide +kernel⟩
set_option maxRecDepth 100000 in
theorem imX10_latestIn : Cond.instanceMethod tX10_latestIn.1 ∈ lw_tbl := inT_5 _ (List.mem_of_getElem? (i := 154) rfl)
set_option maxRecDepth 100000 in
theorem selX10_latestIn : Cond.selects RX10 tX10_latestIn.1 tX10_latestIn.1 ∈ lw_tbl := inS _ (List.mem_of_getElem? (i := 51) rfl)
def tX10_made : Mt := (yX10_made, cX10_made, 3, (some .int))
set_option maxRecDepth 100000 in
theorem mfX10_made : MF tX10_made 2 := ⟨inT_5 _ (List.mem_of_getElem? (i := 217) rfl), inT_1 _ (List.mem_of_getElem? (i := 11) rfl), by decide +kernel⟩
set_option maxRecDepth 100000 in
theorem imX10_made : Cond.instanceMethod tX10_made.1 ∈ lw_tbl := inT_5 _ (List.mem_of_getElem? (i := 216) rfl)
set_option maxRecDepth 100000 in
theorem selX10_made : Cond.selects RX10 tX10_made.1 tX10_made.1 ∈ lw_tbl := inS _ (List.mem_of_getElem? (i := 61) rfl)
def tX10_above : Mt := (yX10_above, cX10_above, 4, none)
set_option maxRecDepth 100000 in
theorem mfX10_above : MF tX10_above 3 := ⟨inT_5 _ (List.mem_of_getElem? (i := 213) rfl), inT_1 _ (List.mem_of_getElem? (i := 11) rfl), by decide +kernel⟩
set_option maxRecDepth 100000 in
theorem imX10_above : Cond.instanceMethod tX10_above.1 ∈ lw_tbl := inT_5 _ (List.mem_of_getElem? (i := 212) rfl)
set_option maxRecDepth 100000 in
theorem selX10_above : Cond.selects RX10 tX10_above.1 tX10_above.1 ∈ lw_tbl := inS _ (List.mem_of_getElem? (i := 60) rfl)
def tX10_add : Mt := (yX10_add, cX10_add, 3, none)
set_option maxRecDepth 100000 in
theorem mfX10_add : MF tX10_add 1 := ⟨inT_5 _ (List.mem_of_getElem? (i := 209) rfl), inT_1 _ (List.mem_of_getElem? (i := 11) rfl), by decide +kernel⟩
set_option maxRecDepth 100000 in
theorem imX10_add : Cond.instanceMethod tX10_add.1 ∈ lw_tbl := inT_5 _ (List.mem_of_getElem? (i := 208) rfl)
set_option maxRecDepth 100000 in
theorem selX10_add : Cond.selects RX10 tX10_add.1 tX10_add.1 ∈ lw_tbl := inS _ (List.mem_of_getElem? (i := 59) rfl)
def tX10_close : Mt := (yX10_close, cX10_close, 6, (some .boolean))
set_option maxRecDepth 100000 in
theorem mfX10_close : MF tX10_close 0 := ⟨inT_5 _ (List.mem_of_getElem? (i := 221) rfl), inT_1 _ (List.mem_of_getElem? (i := 11) rfl), by decide +kernel⟩
set_option maxRecDepth 100000 in
theorem imX10_close : Cond.instanceMethod tX10_close.1 ∈ lw_tbl := inT_5 _ (List.mem_of_getElem? (i := 220) rfl)
set_option maxRecDepth 100000 in
theorem selX10_close : Cond.selects RX10 tX10_close.1 tX10_close.1 ∈ lw_tbl := inS _ (List.mem_of_getElem? (i := 62) rfl)
def tX10_begin : Mt := (yX10_begin, cX10_begin, 2, none)
set_option maxRecDepth 100000 in
theorem mfX10_begin : MF tX10_begin 0 := ⟨inT_5 _ (List.mem_of_getElem? (i := 200) rfl), inT_1 _ (List.mem_of_getElem? (i := 11) rfl), by decide +kernel⟩
set_option maxRecDepth 100000 in
theorem imX10_begin : Cond.instanceMethod tX10_begin.1 ∈ lw_tbl := inT_5 _ (List.mem_of_getElem? (i := 199) rfl)
set_option maxRecDepth 100000 in
theorem selX10_begin : Cond.selects RX10 tX10_begin.1 tX10_begin.1 ∈ lw_tbl := inS _ (List.mem_of_getElem? (i := 57) rfl)
def tX10_lay : Mt := (yX10_lay, cX10_lay, 3, none)
set_option maxRecDepth 100000 in
theorem mfX10_lay : MF tX10_lay 1 := ⟨inT_5 _ (List.mem_of_getElem? (i := 196) rfl), inT_1 _ (List.mem_of_getElem? (i := 11) rfl), by decide +kernel⟩
set_option maxRecDepth 100000 in
theorem imX10_lay : Cond.instanceMethod tX10_lay.1 ∈ lw_tbl := inT_5 _ (List.mem_of_getElem? (i := 195) rfl)
set_option maxRecDepth 100000 in
theorem selX10_lay : Cond.selects RX10 tX10_lay.1 tX10_lay.1 ∈ lw_tbl := inS _ (List.mem_of_getElem? (i := 56) rfl)
def tX10_canBe : Mt := (yX10_canBe, cX10_canBe, 2, (some .boolean))
set_option maxRecDepth 100000 in
theorem mfX10_canBe : MF tX10_canBe 1 := ⟨inT_5 _ (List.mem_of_getElem? (i := 192) rfl), inT_1 _ (List.mem_of_getElem? (i := 11) rfl), by decide +kernel⟩
set_option maxRecDepth 100000 in
theorem imX10_canBe : Cond.instanceMethod tX10_canBe.1 ∈ lw_tbl := inT_5 _ (List.mem_of_getElem? (i := 191) rfl)
set_option maxRecDepth 100000 in
theorem selX10_canBe : Cond.selects RX10 tX10_canBe.1 tX10_canBe.1 ∈ lw_tbl := inS _ (List.mem_of_getElem? (i := 55) rfl)
def tX10_gapHigh : Mt := (yX10_gapHigh, cX10_gapHigh, 3, (some .int))
set_option maxRecDepth 100000 in
theorem mfX10_gapHigh : MF tX10_gapHigh 2 := ⟨inT_6 _ (List.mem_of_getElem? (i := 22) rfl), inT_1 _ (List.mem_of_getElem? (i := 11) rfl), by decide +kernel⟩
set_option maxRecDepth 100000 in
theorem imX10_gapHigh : Cond.instanceMethod tX10_gapHigh.1 ∈ lw_tbl := inT_6 _ (List.mem_of_getElem? (i := 21) rfl)
set_option maxRecDepth 100000 in
theorem selX10_gapHigh : Cond.selects RX10 tX10_gapHigh.1 tX10_gapHigh.1 ∈ lw_tbl := inS _ (List.mem_of_getElem? (i := 67) rfl)
def tX10_gapLow : Mt := (yX10_gapLow, cX10_gapLow, 3, (some .int))
set_option maxRecDepth 100000 in
theorem mfX10_gapLow : MF tX10_gapLow 2 := ⟨inT_6 _ (List.mem_of_getElem? (i := 18) rfl), inT_1 _ (List.mem_of_getElem? (i := 11) rfl), by decide +kernel⟩
set_option maxRecDepth 100000 in
theorem imX10_gapLow : Cond.instanceMethod tX10_gapLow.1 ∈ lw_tbl := inT_6 _ (List.mem_of_getElem? (i := 17) rfl)
set_option maxRecDepth 100000 in
theorem selX10_gapLow : Cond.selects RX10 tX10_gapLow.1 tX10_gapLow.1 ∈ lw_tbl := inS _ (List.mem_of_getElem? (i := 66) rfl)
def tX10_isSet : Mt := (yX10_isSet, cX10_isSet, 2, (some .boolean))
set_option maxRecDepth 100000 in
theorem mfX10_isSet : MF tX10_isSet 1 := ⟨inT_5 _ (List.mem_of_getElem? (i := 188) rfl), inT_1 _ (List.mem_of_getElem? (i := 11) rfl), by decide +kernel⟩
set_option maxRecDepth 100000 in
theorem imX10_isSet : Cond.instanceMethod tX10_isSet.1 ∈ lw_tbl := inT_5 _ (List.mem_of_getElem? (i := 187) rfl)
set_option maxRecDepth 100000 in
theorem selX10_isSet : Cond.selects RX10 tX10_isSet.1 tX10_isSet.1 ∈ lw_tbl := inS _ (List.mem_of_getElem? (i := 54) rfl)
def tX10_in : Mt := (yX10_in, cX10_in, 3, (some .boolean))
set_option maxRecDepth 100000 in
theorem mfX10_in : MF tX10_in 3 := ⟨inT_5 _ (List.mem_of_getElem? (i := 115) rfl), inT_1 _ (List.mem_of_getElem? (i := 11) rfl), by decide +kernel⟩
set_option maxRecDepth 100000 in
theorem smX10_in : Cond.static tX10_in.1 ∈ lw_tbl := inT_5 _ (List.mem_of_getElem? (i := 114) rfl)
def tX10_isWalk : Mt := (yX10_isWalk, cX10_isWalk, 2, (some .boolean))
set_option maxRecDepth 100000 in
theorem mfX10_isWalk : MF tX10_isWalk 1 := ⟨inT_5 _ (List.mem_of_getElem? (i := 131) rfl), inT_1 _ (List.mem_of_getElem? (i := 11) rfl), by decide +kernel⟩
set_option maxRecDepth 100000 in
theorem imX10_isWalk : Cond.instanceMethod tX10_isWalk.1 ∈ lw_tbl := inT_5 _ (List.mem_of_getElem? (i := 130) rfl)
set_option maxRecDepth 100000 in
theorem selX10_isWalk : Cond.selects RX10 tX10_isWalk.1 tX10_isWalk.1 ∈ lw_tbl := inS _ (List.mem_of_getElem? (i := 47) rfl)
def tX10_ahead : Mt := (yX10_ahead, cX10_ahead, 4, (some .int))
set_option maxRecDepth 100000 in
theorem mfX10_ahead : MF tX10_ahead 3 := ⟨inT_6 _ (List.mem_of_getElem? (i := 47) rfl), inT_1 _ (List.mem_of_getElem? (i := 11) rfl), by decide +kernel⟩
set_option maxRecDepth 100000 in
theorem imX10_ahead : Cond.instanceMethod tX10_ahead.1 ∈ lw_tbl := inT_6 _ (List.mem_of_getElem? (i := 45) rfl)
set_option maxRecDepth 100000 in
theorem selX10_ahead : Cond.selects RX10 tX10_ahead.1 tX10_ahead.1 ∈ lw_tbl := inT_6 _ (List.mem_of_getElem? (i := 46) rfl)
def tX10_areTwo : Mt := (yX10_areTwo, cX10_areTwo, 3, (some .boolean))
set_option maxRecDepth 100000 in
theorem mfX10_areTwo : MF tX10_areTwo 2 := ⟨inT_6 _ (List.mem_of_getElem? (i := 31) rfl), inT_1 _ (List.mem_of_getElem? (i := 11) rfl), by decide +kernel⟩
set_option maxRecDepth 100000 in
theorem imX10_areTwo : Cond.instanceMethod tX10_areTwo.1 ∈ lw_tbl := inT_6 _ (List.mem_of_getElem? (i := 30) rfl)
set_option maxRecDepth 100000 in
theorem selX10_areTwo : Cond.selects RX10 tX10_areTwo.1 tX10_areTwo.1 ∈ lw_tbl := inS _ (List.mem_of_getElem? (i := 68) rfl)
def tX10_bad : Mt := (yX10_bad, cX10_bad, 1, none)
set_option maxRecDepth 100000 in
theorem mfX10_bad : MF tX10_bad 0 := ⟨inT_5 _ (List.mem_of_getElem? (i := 90) rfl), inT_1 _ (List.mem_of_getElem? (i := 11) rfl), by decide +kernel⟩
set_option maxRecDepth 100000 in
theorem imX10_bad : Cond.instanceMethod tX10_bad.1 ∈ lw_tbl := inT_5 _ (List.mem_of_getElem? (i := 89) rfl)
set_option maxRecDepth 100000 in
theorem selX10_bad : Cond.selects RX10 tX10_bad.1 tX10_bad.1 ∈ lw_tbl := inS _ (List.mem_of_getElem? (i := 41) rfl)
def tX10_bars : Mt := (yX10_bars, cX10_bars, 3, (some .int))
set_option maxRecDepth 100000 in
theorem mfX10_bars : MF tX10_bars 1 := ⟨inT_5 _ (List.mem_of_getElem? (i := 225) rfl), inT_1 _ (List.mem_of_getElem? (i := 11) rfl), by decide +kernel⟩
set_option maxRecDepth 100000 in
theorem imX10_bars : Cond.instanceMethod tX10_bars.1 ∈ lw_tbl := inT_5 _ (List.mem_of_getElem? (i := 223) rfl)
set_option maxRecDepth 100000 in
theorem selX10_bars : Cond.selects RX10 tX10_bars.1 tX10_bars.1 ∈ lw_tbl := inT_5 _ (List.mem_of_getElem? (i := 224) rfl)
def tX10_high : Mt := (yX10_high, cX10_high, 2, (some .int))
set_option maxRecDepth 100000 in
theorem mfX10_high : MF tX10_high 1 := ⟨inT_6 _ (List.mem_of_getElem? (i := 10) rfl), inT_1 _ (List.mem_of_getElem? (i := 11) rfl), by decide +kernel⟩
set_option maxRecDepth 100000 in
theorem imX10_high : Cond.instanceMethod tX10_high.1 ∈ lw_tbl := inT_6 _ (List.mem_of_getElem? (i := 9) rfl)
set_option maxRecDepth 100000 in
theorem selX10_high : Cond.selects RX10 tX10_high.1 tX10_high.1 ∈ lw_tbl := inS _ (List.mem_of_getElem? (i := 65) rfl)
def tX10_low : Mt := (yX10_low, cX10_low, 2, (some .int))
set_option maxRecDepth 100000 in
theorem mfX10_low : MF tX10_low 1 := ⟨inT_6 _ (List.mem_of_getElem? (i := 6) rfl), inT_1 _ (List.mem_of_getElem? (i := 11) rfl), by decide +kernel⟩
set_option maxRecDepth 100000 in
theorem imX10_low : Cond.instanceMethod tX10_low.1 ∈ lw_tbl := inT_6 _ (List.mem_of_getElem? (i := 5) rfl)
set_option maxRecDepth 100000 in
theorem selX10_low : Cond.selects RX10 tX10_low.1 tX10_low.1 ∈ lw_tbl := inS _ (List.mem_of_getElem? (i := 64) rfl)
def tX10_begins : Mt := (yX10_begins, cX10_begins, 4, (some .int))
set_option maxRecDepth 100000 in
theorem mfX10_begins : MF tX10_begins 3 := ⟨inT_6 _ (List.mem_of_getElem? (i := 2) rfl), inT_1 _ (List.mem_of_getElem? (i := 11) rfl), by decide +kernel⟩
set_option maxRecDepth 100000 in
theorem imX10_begins : Cond.instanceMethod tX10_begins.1 ∈ lw_tbl := inT_6 _ (List.mem_of_getElem? (i := 0) rfl)
set_option maxRecDepth 100000 in
theorem selX10_begins : Cond.selects RX10 tX10_begins.1 tX10_begins.1 ∈ lw_tbl := inT_6 _ (List.mem_of_getElem? (i := 1) rfl)
def tX10_byteOf : Mt := (yX10_byteOf, cX10_byteOf, 7, (some .int))
set_option maxRecDepth 100000 in
theorem mfX10_byteOf : MF tX10_byteOf 6 := ⟨inT_5 _ (List.mem_of_getElem? (i := 62) rfl), inT_1 _ (List.mem_of_getElem? (i := 11) rfl), by decide +kernel⟩
set_option maxRecDepth 100000 in
theorem smX10_byteOf : Cond.static tX10_byteOf.1 ∈ lw_tbl := inT_5 _ (List.mem_of_getElem? (i := 61) rfl)
def tX10_can : Mt := (yX10_can, cX10_can, 2, (some .int))
set_option maxRecDepth 100000 in
theorem mfX10_can : MF tX10_can 1 := ⟨inT_5 _ (List.mem_of_getElem? (i := 184) rfl), inT_1 _ (List.mem_of_getElem? (i := 11) rfl), by decide +kernel⟩
set_option maxRecDepth 100000 in
theorem imX10_can : Cond.instanceMethod tX10_can.1 ∈ lw_tbl := inT_5 _ (List.mem_of_getElem? (i := 182) rfl)
set_option maxRecDepth 100000 in
theorem selX10_can : Cond.selects RX10 tX10_can.1 tX10_can.1 ∈ lw_tbl := inT_5 _ (List.mem_of_getElem? (i := 183) rfl)
def tX10_core : Mt := (yX10_core, cX10_core, 4, (some .int))
set_option maxRecDepth 100000 in
theorem mfX10_core : MF tX10_core 1 := ⟨inT_5 _ (List.mem_of_getElem? (i := 229) rfl), inT_1 _ (List.mem_of_getElem? (i := 11) rfl), by decide +kernel⟩
set_option maxRecDepth 100000 in
theorem imX10_core : Cond.instanceMethod tX10_core.1 ∈ lw_tbl := inT_5 _ (List.mem_of_getElem? (i := 227) rfl)
set_option maxRecDepth 100000 in
theorem selX10_core : Cond.selects RX10 tX10_core.1 tX10_core.1 ∈ lw_tbl := inT_5 _ (List.mem_of_getElem? (i := 228) rfl)
def tX10_count : Mt := (yX10_count, cX10_count, 2, (some .int))
set_option maxRecDepth 100000 in
theorem mfX10_count : MF tX10_count 1 := ⟨inT_6 _ (List.mem_of_getElem? (i := 149) rfl), inT_1 _ (List.mem_of_getElem? (i := 11) rfl), by decide +kernel⟩
set_option maxRecDepth 100000 in
theorem imX10_count : Cond.instanceMethod tX10_count.1 ∈ lw_tbl := inT_6 _ (List.mem_of_getElem? (i := 147) rfl)
set_option maxRecDepth 100000 in
theorem selX10_count : Cond.selects RX10 tX10_count.1 tX10_count.1 ∈ lw_tbl := inT_6 _ (List.mem_of_getElem? (i := 148) rfl)
def tX10_cross : Mt := (yX10_cross, cX10_cross, 4, (some .boolean))
set_option maxRecDepth 100000 in
theorem mfX10_cross : MF tX10_cross 3 := ⟨inT_6 _ (List.mem_of_getElem? (i := 35) rfl), inT_1 _ (List.mem_of_getElem? (i := 11) rfl), by decide +kernel⟩
set_option maxRecDepth 100000 in
theorem imX10_cross : Cond.instanceMethod tX10_cross.1 ∈ lw_tbl := inT_6 _ (List.mem_of_getElem? (i := 34) rfl)
set_option maxRecDepth 100000 in
theorem selX10_cross : Cond.selects RX10 tX10_cross.1 tX10_cross.1 ∈ lw_tbl := inS _ (List.mem_of_getElem? (i := 69) rfl)
def tX10_crossings : Mt := (yX10_crossings, cX10_crossings, 6, (some .int))
set_option maxRecDepth 100000 in
theorem mfX10_crossings : MF tX10_crossings 3 := ⟨inT_6 _ (List.mem_of_getElem? (i := 27) rfl), inT_1 _ (List.mem_of_getElem? (i := 11) rfl), by decide +kernel⟩
set_option maxRecDepth 100000 in
theorem imX10_crossings : Cond.instanceMethod tX10_crossings.1 ∈ lw_tbl := inT_6 _ (List.mem_of_getElem? (i := 25) rfl)
set_option maxRecDepth 100000 in
theorem selX10_crossings : Cond.selects RX10 tX10_crossings.1 tX10_crossings.1 ∈ lw_tbl := inT_6 _ (List.mem_of_getElem? (i := 26) rfl)
def tX10_end : Mt := (yX10_end, cX10_end, 2, (some .boolean))
set_option maxRecDepth 100000 in
theorem mfX10_end : MF tX10_end 1 := ⟨inT_5 _ (List.mem_of_getElem? (i := 66) rfl), inT_1 _ (List.mem_of_getElem? (i := 11) rfl), by decide +kernel⟩
set_option maxRecDepth 100000 in
theorem imX10_end : Cond.instanceMethod tX10_end.1 ∈ lw_tbl := inT_5 _ (List.mem_of_getElem? (i := 64) rfl)
set_option maxRecDepth 100000 in
theorem selX10_end : Cond.selects RX10 tX10_end.1 tX10_end.1 ∈ lw_tbl := inT_5 _ (List.mem_of_getElem? (i := 65) rfl)
def tX10_isCell : Mt := (yX10_isCell, cX10_isCell, 3, (some .boolean))
set_option maxRecDepth 100000 in
theorem mfX10_isCell : MF tX10_isCell 2 := ⟨inT_5 _ (List.mem_of_getElem? (i := 151) rfl), inT_1 _ (List.mem_of_getElem? (i := 11) rfl), by decide +kernel⟩
set_option maxRecDepth 100000 in
theorem imX10_isCell : Cond.instanceMethod tX10_isCell.1 ∈ lw_tbl := inT_5 _ (List.mem_of_getElem? (i := 150) rfl)
set_option maxRecDepth 100000 in
theorem selX10_isCell : Cond.selects RX10 tX10_isCell.1 tX10_isCell.1 ∈ lw_tbl := inS _ (List.mem_of_getElem? (i := 50) rfl)
def tX10_latest : Mt := (yX10_latest, cX10_latest, 4, (some .int))
set_option maxRecDepth 100000 in
theorem mfX10_latest : MF tX10_latest 3 := ⟨inT_5 _ (List.mem_of_getElem? (i := 147) rfl), inT_1 _ (List.mem_of_getElem? (i := 11) rfl), by decide +kernel⟩
set_option maxRecDepth 100000 in
theorem imX10_latest : Cond.instanceMethod tX10_latest.1 ∈ lw_tbl := inT_5 _ (List.mem_of_getElem? (i := 145) rfl)
set_option maxRecDepth 100000 in
theorem selX10_latest : Cond.selects RX10 tX10_latest.1 tX10_latest.1 ∈ lw_tbl := inT_5 _ (List.mem_of_getElem? (i := 146) rfl)
def tX10_hasLatest : Mt := (yX10_hasLatest, cX10_hasLatest, 4, (some .boolean))
set_option maxRecDepth 100000 in
theorem mfX10_hasLatest : MF tX10_hasLatest 3 := ⟨inT_5 _ (List.mem_of_getElem? (i := 171) rfl), inT_1 _ (List.mem_of_getElem? (i := 11) rfl), by decide +kernel⟩
set_option maxRecDepth 100000 in
theorem imX10_hasLatest : Cond.instanceMethod tX10_hasLatest.1 ∈ lw_tbl := inT_5 _ (List.mem_of_getElem? (i := 170) rfl)
set_option maxRecDepth 100000 in
theorem selX10_hasLatest : Cond.selects RX10 tX10_hasLatest.1 tX10_hasLatest.1 ∈ lw_tbl := inS _ (List.mem_of_getElem? (i := 53) rfl)
def tX10_mayBe : Mt := (yX10_mayBe, cX10_mayBe, 6, (some .boolean))
set_option maxRecDepth 100000 in
theorem mfX10_mayBe : MF tX10_mayBe 5 := ⟨inT_5 _ (List.mem_of_getElem? (i := 167) rfl), inT_1 _ (List.mem_of_getElem? (i := 11) rfl), by decide +kernel⟩
set_option maxRecDepth 100000 in
theorem imX10_mayBe : Cond.instanceMethod tX10_mayBe.1 ∈ lw_tbl := inT_5 _ (List.mem_of_getElem? (i := 166) rfl)
set_option maxRecDepth 100000 in
theorem selX10_mayBe : Cond.selects RX10 tX10_mayBe.1 tX10_mayBe.1 ∈ lw_tbl := inS _ (List.mem_of_getElem? (i := 52) rfl)
def tX10_fact : Mt := (yX10_fact, cX10_fact, 7, (some .int))
set_option maxRecDepth 100000 in
theorem mfX10_fact : MF tX10_fact 6 := ⟨inT_5 _ (List.mem_of_getElem? (i := 163) rfl), inT_1 _ (List.mem_of_getElem? (i := 11) rfl), by decide +kernel⟩
set_option maxRecDepth 100000 in
theorem imX10_fact : Cond.instanceMethod tX10_fact.1 ∈ lw_tbl := inT_5 _ (List.mem_of_getElem? (i := 161) rfl)
set_option maxRecDepth 100000 in
theorem selX10_fact : Cond.selects RX10 tX10_fact.1 tX10_fact.1 ∈ lw_tbl := inT_5 _ (List.mem_of_getElem? (i := 162) rfl)
def tX10_here : Mt := (yX10_here, cX10_here, 1, (some .int))
set_option maxRecDepth 100000 in
theorem mfX10_here : MF tX10_here 0 := ⟨inT_5 _ (List.mem_of_getElem? (i := 86) rfl), inT_1 _ (List.mem_of_getElem? (i := 11) rfl), by decide +kernel⟩
set_option maxRecDepth 100000 in
theorem imX10_here : Cond.instanceMethod tX10_here.1 ∈ lw_tbl := inT_5 _ (List.mem_of_getElem? (i := 85) rfl)
set_option maxRecDepth 100000 in
theorem selX10_here : Cond.selects RX10 tX10_here.1 tX10_here.1 ∈ lw_tbl := inS _ (List.mem_of_getElem? (i := 40) rfl)
def tX10_look : Mt := (yX10_look, cX10_look, 1, (some .int))
set_option maxRecDepth 100000 in
theorem mfX10_look : MF tX10_look 0 := ⟨inT_5 _ (List.mem_of_getElem? (i := 82) rfl), inT_1 _ (List.mem_of_getElem? (i := 11) rfl), by decide +kernel⟩
set_option maxRecDepth 100000 in
theorem imX10_look : Cond.instanceMethod tX10_look.1 ∈ lw_tbl := inT_5 _ (List.mem_of_getElem? (i := 81) rfl)
set_option maxRecDepth 100000 in
theorem selX10_look : Cond.selects RX10 tX10_look.1 tX10_look.1 ∈ lw_tbl := inS _ (List.mem_of_getElem? (i := 39) rfl)
def tX10_isStep : Mt := (yX10_isStep, cX10_isStep, 1, (some .boolean))
set_option maxRecDepth 100000 in
theorem mfX10_isStep : MF tX10_isStep 1 := ⟨inT_5 _ (List.mem_of_getElem? (i := 104) rfl), inT_1 _ (List.mem_of_getElem? (i := 11) rfl), by decide +kernel⟩
set_option maxRecDepth 100000 in
theorem smX10_isStep : Cond.static tX10_isStep.1 ∈ lw_tbl := inT_5 _ (List.mem_of_getElem? (i := 103) rfl)
def tX10_stand : Mt := (yX10_stand, cX10_stand, 1, none)
set_option maxRecDepth 100000 in
theorem mfX10_stand : MF tX10_stand 0 := ⟨inT_5 _ (List.mem_of_getElem? (i := 119) rfl), inT_1 _ (List.mem_of_getElem? (i := 11) rfl), by decide +kernel⟩
set_option maxRecDepth 100000 in
theorem imX10_stand : Cond.instanceMethod tX10_stand.1 ∈ lw_tbl := inT_5 _ (List.mem_of_getElem? (i := 118) rfl)
set_option maxRecDepth 100000 in
theorem selX10_stand : Cond.selects RX10 tX10_stand.1 tX10_stand.1 ∈ lw_tbl := inS _ (List.mem_of_getElem? (i := 46) rfl)
def tX10_step : Mt := (yX10_step, cX10_step, 4, none)
set_option maxRecDepth 100000 in
theorem mfX10_step : MF tX10_step 1 := ⟨inT_5 _ (List.mem_of_getElem? (i := 112) rfl), inT_1 _ (List.mem_of_getElem? (i := 11) rfl), by decide +kernel⟩
set_option maxRecDepth 100000 in
theorem imX10_step : Cond.instanceMethod tX10_step.1 ∈ lw_tbl := inT_5 _ (List.mem_of_getElem? (i := 111) rfl)
set_option maxRecDepth 100000 in
theorem selX10_step : Cond.selects RX10 tX10_step.1 tX10_step.1 ∈ lw_tbl := inS _ (List.mem_of_getElem? (i := 45) rfl)
def tX10_move : Mt := (yX10_move, cX10_move, 6, none)
set_option maxRecDepth 100000 in
theorem mfX10_move : MF tX10_move 3 := ⟨inT_5 _ (List.mem_of_getElem? (i := 108) rfl), inT_1 _ (List.mem_of_getElem? (i := 11) rfl), by decide +kernel⟩
set_option maxRecDepth 100000 in
theorem imX10_move : Cond.instanceMethod tX10_move.1 ∈ lw_tbl := inT_5 _ (List.mem_of_getElem? (i := 107) rfl)
set_option maxRecDepth 100000 in
theorem selX10_move : Cond.selects RX10 tX10_move.1 tX10_move.1 ∈ lw_tbl := inS _ (List.mem_of_getElem? (i := 44) rfl)
def tX10_moves : Mt := (yX10_moves, cX10_moves, 5, none)
set_option maxRecDepth 100000 in
theorem mfX10_moves : MF tX10_moves 1 := ⟨inT_5 _ (List.mem_of_getElem? (i := 101) rfl), inT_1 _ (List.mem_of_getElem? (i := 11) rfl), by decide +kernel⟩
set_option maxRecDepth 100000 in
theorem imX10_moves : Cond.instanceMethod tX10_moves.1 ∈ lw_tbl := inT_5 _ (List.mem_of_getElem? (i := 100) rfl)
set_option maxRecDepth 100000 in
theorem selX10_moves : Cond.selects RX10 tX10_moves.1 tX10_moves.1 ∈ lw_tbl := inS _ (List.mem_of_getElem? (i := 43) rfl)
def tX10_isDigit : Mt := (yX10_isDigit, cX10_isDigit, 1, (some .boolean))
set_option maxRecDepth 100000 in
theorem mfX10_isDigit : MF tX10_isDigit 1 := ⟨inT_5 _ (List.mem_of_getElem? (i := 97) rfl), inT_1 _ (List.mem_of_getElem? (i := 11) rfl), by decide +kernel⟩
set_option maxRecDepth 100000 in
theorem smX10_isDigit : Cond.static tX10_isDigit.1 ∈ lw_tbl := inT_5 _ (List.mem_of_getElem? (i := 96) rfl)
def tX10_number : Mt := (yX10_number, cX10_number, 3, (some .int))
set_option maxRecDepth 100000 in
theorem mfX10_number : MF tX10_number 1 := ⟨inT_5 _ (List.mem_of_getElem? (i := 94) rfl), inT_1 _ (List.mem_of_getElem? (i := 11) rfl), by decide +kernel⟩
set_option maxRecDepth 100000 in
theorem imX10_number : Cond.instanceMethod tX10_number.1 ∈ lw_tbl := inT_5 _ (List.mem_of_getElem? (i := 93) rfl)
set_option maxRecDepth 100000 in
theorem selX10_number : Cond.selects RX10 tX10_number.1 tX10_number.1 ∈ lw_tbl := inS _ (List.mem_of_getElem? (i := 42) rfl)
def tX10_sign : Mt := (yX10_sign, cX10_sign, 2, none)
set_option maxRecDepth 100000 in
theorem mfX10_sign : MF tX10_sign 1 := ⟨inT_5 _ (List.mem_of_getElem? (i := 78) rfl), inT_1 _ (List.mem_of_getElem? (i := 11) rfl), by decide +kernel⟩
set_option maxRecDepth 100000 in
theorem imX10_sign : Cond.instanceMethod tX10_sign.1 ∈ lw_tbl := inT_5 _ (List.mem_of_getElem? (i := 77) rfl)
set_option maxRecDepth 100000 in
theorem selX10_sign : Cond.selects RX10 tX10_sign.1 tX10_sign.1 ∈ lw_tbl := inS _ (List.mem_of_getElem? (i := 38) rfl)
def tX10_read : Mt := (yX10_read, cX10_read, 2, (some .int))
set_option maxRecDepth 100000 in
theorem mfX10_read : MF tX10_read 1 := ⟨inT_5 _ (List.mem_of_getElem? (i := 74) rfl), inT_1 _ (List.mem_of_getElem? (i := 11) rfl), by decide +kernel⟩
set_option maxRecDepth 100000 in
theorem imX10_read : Cond.instanceMethod tX10_read.1 ∈ lw_tbl := inT_5 _ (List.mem_of_getElem? (i := 73) rfl)
set_option maxRecDepth 100000 in
theorem selX10_read : Cond.selects RX10 tX10_read.1 tX10_read.1 ∈ lw_tbl := inS _ (List.mem_of_getElem? (i := 37) rfl)
def tX10_fault : Mt := (yX10_fault, cX10_fault, 1, (some .int))
set_option maxRecDepth 100000 in
theorem mfX10_fault : MF tX10_fault 0 := ⟨inT_5 _ (List.mem_of_getElem? (i := 70) rfl), inT_1 _ (List.mem_of_getElem? (i := 11) rfl), by decide +kernel⟩
set_option maxRecDepth 100000 in
theorem imX10_fault : Cond.instanceMethod tX10_fault.1 ∈ lw_tbl := inT_5 _ (List.mem_of_getElem? (i := 68) rfl)
set_option maxRecDepth 100000 in
theorem selX10_fault : Cond.selects RX10 tX10_fault.1 tX10_fault.1 ∈ lw_tbl := inT_5 _ (List.mem_of_getElem? (i := 69) rfl)
def tX10_feed : Mt := (yX10_feed, cX10_feed, 9, (some .int))
set_option maxRecDepth 100000 in
theorem mfX10_feed : MF tX10_feed 5 := ⟨inT_5 _ (List.mem_of_getElem? (i := 59) rfl), inT_1 _ (List.mem_of_getElem? (i := 11) rfl), by decide +kernel⟩
set_option maxRecDepth 100000 in
theorem imX10_feed : Cond.instanceMethod tX10_feed.1 ∈ lw_tbl := inT_5 _ (List.mem_of_getElem? (i := 57) rfl)
set_option maxRecDepth 100000 in
theorem selX10_feed : Cond.selects RX10 tX10_feed.1 tX10_feed.1 ∈ lw_tbl := inT_5 _ (List.mem_of_getElem? (i := 58) rfl)
def tX10_spanNow : Mt := (yX10_spanNow, cX10_spanNow, 3, (some .int))
set_option maxRecDepth 100000 in
theorem mfX10_spanNow : MF tX10_spanNow 0 := ⟨inT_6 _ (List.mem_of_getElem? (i := 55) rfl), inT_1 _ (List.mem_of_getElem? (i := 11) rfl), by decide +kernel⟩
set_option maxRecDepth 100000 in
theorem imX10_spanNow : Cond.instanceMethod tX10_spanNow.1 ∈ lw_tbl := inT_6 _ (List.mem_of_getElem? (i := 54) rfl)
set_option maxRecDepth 100000 in
theorem selX10_spanNow : Cond.selects RX10 tX10_spanNow.1 tX10_spanNow.1 ∈ lw_tbl := inS _ (List.mem_of_getElem? (i := 71) rfl)
def tX10_spanWith : Mt := (yX10_spanWith, cX10_spanWith, 5, (some .int))
set_option maxRecDepth 100000 in
theorem mfX10_spanWith : MF tX10_spanWith 4 := ⟨inT_6 _ (List.mem_of_getElem? (i := 71) rfl), inT_1 _ (List.mem_of_getElem? (i := 11) rfl), by decide +kernel⟩
set_option maxRecDepth 100000 in
theorem imX10_spanWith : Cond.instanceMethod tX10_spanWith.1 ∈ lw_tbl := inT_6 _ (List.mem_of_getElem? (i := 70) rfl)
set_option maxRecDepth 100000 in
theorem selX10_spanWith : Cond.selects RX10 tX10_spanWith.1 tX10_spanWith.1 ∈ lw_tbl := inS _ (List.mem_of_getElem? (i := 74) rfl)
def tX10_sureOf : Mt := (yX10_sureOf, cX10_sureOf, 5, (some .int))
set_option maxRecDepth 100000 in
theorem mfX10_sureOf : MF tX10_sureOf 3 := ⟨inT_6 _ (List.mem_of_getElem? (i := 43) rfl), inT_1 _ (List.mem_of_getElem? (i := 11) rfl), by decide +kernel⟩
set_option maxRecDepth 100000 in
theorem imX10_sureOf : Cond.instanceMethod tX10_sureOf.1 ∈ lw_tbl := inT_6 _ (List.mem_of_getElem? (i := 42) rfl)
set_option maxRecDepth 100000 in
theorem selX10_sureOf : Cond.selects RX10 tX10_sureOf.1 tX10_sureOf.1 ∈ lw_tbl := inS _ (List.mem_of_getElem? (i := 70) rfl)
def tX10_weigh : Mt := (yX10_weigh, cX10_weigh, 6, none)
set_option maxRecDepth 100000 in
theorem mfX10_weigh : MF tX10_weigh 4 := ⟨inT_6 _ (List.mem_of_getElem? (i := 67) rfl), inT_1 _ (List.mem_of_getElem? (i := 11) rfl), by decide +kernel⟩
set_option maxRecDepth 100000 in
theorem imX10_weigh : Cond.instanceMethod tX10_weigh.1 ∈ lw_tbl := inT_6 _ (List.mem_of_getElem? (i := 66) rfl)
set_option maxRecDepth 100000 in
theorem selX10_weigh : Cond.selects RX10 tX10_weigh.1 tX10_weigh.1 ∈ lw_tbl := inS _ (List.mem_of_getElem? (i := 73) rfl)
def tX10_findLook : Mt := (yX10_findLook, cX10_findLook, 5, none)
set_option maxRecDepth 100000 in
theorem mfX10_findLook : MF tX10_findLook 1 := ⟨inT_6 _ (List.mem_of_getElem? (i := 63) rfl), inT_1 _ (List.mem_of_getElem? (i := 11) rfl), by decide +kernel⟩
set_option maxRecDepth 100000 in
theorem imX10_findLook : Cond.instanceMethod tX10_findLook.1 ∈ lw_tbl := inT_6 _ (List.mem_of_getElem? (i := 62) rfl)
set_option maxRecDepth 100000 in
theorem selX10_findLook : Cond.selects RX10 tX10_findLook.1 tX10_findLook.1 ∈ lw_tbl := inS _ (List.mem_of_getElem? (i := 72) rfl)
def tX10_gap : Mt := (yX10_gap, cX10_gap, 5, (some .int))
set_option maxRecDepth 100000 in
theorem mfX10_gap : MF tX10_gap 4 := ⟨inT_6 _ (List.mem_of_getElem? (i := 14) rfl), inT_1 _ (List.mem_of_getElem? (i := 11) rfl), by decide +kernel⟩
set_option maxRecDepth 100000 in
theorem imX10_gap : Cond.instanceMethod tX10_gap.1 ∈ lw_tbl := inT_6 _ (List.mem_of_getElem? (i := 12) rfl)
set_option maxRecDepth 100000 in
theorem selX10_gap : Cond.selects RX10 tX10_gap.1 tX10_gap.1 ∈ lw_tbl := inT_6 _ (List.mem_of_getElem? (i := 13) rfl)
def tX10_holds : Mt := (yX10_holds, cX10_holds, 3, (some .boolean))
set_option maxRecDepth 100000 in
theorem mfX10_holds : MF tX10_holds 1 := ⟨inT_6 _ (List.mem_of_getElem? (i := 107) rfl), inT_1 _ (List.mem_of_getElem? (i := 11) rfl), by decide +kernel⟩
set_option maxRecDepth 100000 in
theorem imX10_holds : Cond.instanceMethod tX10_holds.1 ∈ lw_tbl := inT_6 _ (List.mem_of_getElem? (i := 106) rfl)
set_option maxRecDepth 100000 in
theorem selX10_holds : Cond.selects RX10 tX10_holds.1 tX10_holds.1 ∈ lw_tbl := inS _ (List.mem_of_getElem? (i := 78) rfl)
def tX10_within : Mt := (yX10_within, cX10_within, 3, (some .int))
set_option maxRecDepth 100000 in
theorem mfX10_within : MF tX10_within 3 := ⟨inT_4 _ (List.mem_of_getElem? (i := 165) rfl), inT_1 _ (List.mem_of_getElem? (i := 11) rfl), by decide +kernel⟩
set_option maxRecDepth 100000 in
theorem smX10_within : Cond.static tX10_within.1 ∈ lw_tbl := inT_4 _ (List.mem_of_getElem? (i := 164) rfl)
def tX10_init : Mt := (yX10_init, cX10_init, 4, none)
set_option maxRecDepth 100000 in
theorem mfX10_init : MF tX10_init 3 := ⟨inT_4 _ (List.mem_of_getElem? (i := 161) rfl), inT_1 _ (List.mem_of_getElem? (i := 11) rfl), by decide +kernel⟩
set_option maxRecDepth 100000 in
theorem imX10_init : Cond.instanceMethod tX10_init.1 ∈ lw_tbl := inT_4 _ (List.mem_of_getElem? (i := 160) rfl)
def tX10_isTaken : Mt := (yX10_isTaken, cX10_isTaken, 4, (some .boolean))
set_option maxRecDepth 100000 in
theorem mfX10_isTaken : MF tX10_isTaken 2 := ⟨inT_6 _ (List.mem_of_getElem? (i := 95) rfl), inT_1 _ (List.mem_of_getElem? (i := 11) rfl), by decide +kernel⟩
set_option maxRecDepth 100000 in
theorem imX10_isTaken : Cond.instanceMethod tX10_isTaken.1 ∈ lw_tbl := inT_6 _ (List.mem_of_getElem? (i := 94) rfl)
set_option maxRecDepth 100000 in
theorem selX10_isTaken : Cond.selects RX10 tX10_isTaken.1 tX10_isTaken.1 ∈ lw_tbl := inS _ (List.mem_of_getElem? (i := 77) rfl)
def tX10_judge : Mt := (yX10_judge, cX10_judge, 3, (some .int))
set_option maxRecDepth 100000 in
theorem mfX10_judge : MF tX10_judge 1 := ⟨inT_6 _ (List.mem_of_getElem? (i := 103) rfl), inT_1 _ (List.mem_of_getElem? (i := 11) rfl), by decide +kernel⟩
set_option maxRecDepth 100000 in
theorem imX10_judge : Cond.instanceMethod tX10_judge.1 ∈ lw_tbl := inT_6 _ (List.mem_of_getElem? (i := 101) rfl)
set_option maxRecDepth 100000 in
theorem selX10_judge : Cond.selects RX10 tX10_judge.1 tX10_judge.1 ∈ lw_tbl := inT_6 _ (List.mem_of_getElem? (i := 102) rfl)
def tX10_length : Mt := (yX10_length, cX10_length, 2, (some .int))
set_option maxRecDepth 100000 in
theorem mfX10_length : MF tX10_length 1 := ⟨inT_6 _ (List.mem_of_getElem? (i := 83) rfl), inT_1 _ (List.mem_of_getElem? (i := 11) rfl), by decide +kernel⟩
set_option maxRecDepth 100000 in
theorem imX10_length : Cond.instanceMethod tX10_length.1 ∈ lw_tbl := inT_6 _ (List.mem_of_getElem? (i := 82) rfl)
set_option maxRecDepth 100000 in
theorem selX10_length : Cond.selects RX10 tX10_length.1 tX10_length.1 ∈ lw_tbl := inS _ (List.mem_of_getElem? (i := 75) rfl)
def tX10_wordsOf : Mt := (yX10_wordsOf, cX10_wordsOf, 4, (some .int))
set_option maxRecDepth 100000 in
theorem mfX10_wordsOf : MF tX10_wordsOf 1 := ⟨inT_5 _ (List.mem_of_getElem? (i := 238) rfl), inT_1 _ (List.mem_of_getElem? (i := 11) rfl), by decide +kernel⟩
set_option maxRecDepth 100000 in
theorem imX10_wordsOf : Cond.instanceMethod tX10_wordsOf.1 ∈ lw_tbl := inT_5 _ (List.mem_of_getElem? (i := 237) rfl)
set_option maxRecDepth 100000 in
theorem selX10_wordsOf : Cond.selects RX10 tX10_wordsOf.1 tX10_wordsOf.1 ∈ lw_tbl := inS _ (List.mem_of_getElem? (i := 63) rfl)
def tX10_liars : Mt := (yX10_liars, cX10_liars, 6, (some .int))
set_option maxRecDepth 100000 in
theorem mfX10_liars : MF tX10_liars 1 := ⟨inT_5 _ (List.mem_of_getElem? (i := 234) rfl), inT_1 _ (List.mem_of_getElem? (i := 11) rfl), by decide +kernel⟩
set_option maxRecDepth 100000 in
theorem imX10_liars : Cond.instanceMethod tX10_liars.1 ∈ lw_tbl := inT_5 _ (List.mem_of_getElem? (i := 232) rfl)
set_option maxRecDepth 100000 in
theorem selX10_liars : Cond.selects RX10 tX10_liars.1 tX10_liars.1 ∈ lw_tbl := inT_5 _ (List.mem_of_getElem? (i := 233) rfl)
def tX10_look_ : Mt := (yX10_look_, cX10_look_, 3, (some .int))
set_option maxRecDepth 100000 in
theorem mfX10_look_ : MF tX10_look_ 2 := ⟨inT_6 _ (List.mem_of_getElem? (i := 59) rfl), inT_1 _ (List.mem_of_getElem? (i := 11) rfl), by decide +kernel⟩
set_option maxRecDepth 100000 in
theorem imX10_look_ : Cond.instanceMethod tX10_look_.1 ∈ lw_tbl := inT_6 _ (List.mem_of_getElem? (i := 57) rfl)
set_option maxRecDepth 100000 in
theorem selX10_look_ : Cond.selects RX10 tX10_look_.1 tX10_look_.1 ∈ lw_tbl := inT_6 _ (List.mem_of_getElem? (i := 58) rfl)
def tX10_meets : Mt := (yX10_meets, cX10_meets, 8, (some .int))
set_option maxRecDepth 100000 in
theorem mfX10_meets : MF tX10_meets 3 := ⟨inT_6 _ (List.mem_of_getElem? (i := 75) rfl), inT_1 _ (List.mem_of_getElem? (i := 11) rfl), by decide +kernel⟩
set_option maxRecDepth 100000 in
theorem imX10_meets : Cond.instanceMethod tX10_meets.1 ∈ lw_tbl := inT_6 _ (List.mem_of_getElem? (i := 73) rfl)
set_option maxRecDepth 100000 in
theorem selX10_meets : Cond.selects RX10 tX10_meets.1 tX10_meets.1 ∈ lw_tbl := inT_6 _ (List.mem_of_getElem? (i := 74) rfl)
def tX10_one : Mt := (yX10_one, cX10_one, 4, (some .int))
set_option maxRecDepth 100000 in
theorem mfX10_one : MF tX10_one 3 := ⟨inT_6 _ (List.mem_of_getElem? (i := 79) rfl), inT_1 _ (List.mem_of_getElem? (i := 11) rfl), by decide +kernel⟩
set_option maxRecDepth 100000 in
theorem imX10_one : Cond.instanceMethod tX10_one.1 ∈ lw_tbl := inT_6 _ (List.mem_of_getElem? (i := 77) rfl)
set_option maxRecDepth 100000 in
theorem selX10_one : Cond.selects RX10 tX10_one.1 tX10_one.1 ∈ lw_tbl := inT_6 _ (List.mem_of_getElem? (i := 78) rfl)
def tX10_rise : Mt := (yX10_rise, cX10_rise, 6, none)
set_option maxRecDepth 100000 in
theorem mfX10_rise : MF tX10_rise 3 := ⟨inT_6 _ (List.mem_of_getElem? (i := 139) rfl), inT_1 _ (List.mem_of_getElem? (i := 11) rfl), by decide +kernel⟩
set_option maxRecDepth 100000 in
theorem imX10_rise : Cond.instanceMethod tX10_rise.1 ∈ lw_tbl := inT_6 _ (List.mem_of_getElem? (i := 138) rfl)
set_option maxRecDepth 100000 in
theorem selX10_rise : Cond.selects RX10 tX10_rise.1 tX10_rise.1 ∈ lw_tbl := inS _ (List.mem_of_getElem? (i := 80) rfl)
def tX10_orders : Mt := (yX10_orders, cX10_orders, 3, (some .int))
set_option maxRecDepth 100000 in
theorem mfX10_orders : MF tX10_orders 2 := ⟨inT_6 _ (List.mem_of_getElem? (i := 135) rfl), inT_1 _ (List.mem_of_getElem? (i := 11) rfl), by decide +kernel⟩
set_option maxRecDepth 100000 in
theorem imX10_orders : Cond.instanceMethod tX10_orders.1 ∈ lw_tbl := inT_6 _ (List.mem_of_getElem? (i := 133) rfl)
set_option maxRecDepth 100000 in
theorem selX10_orders : Cond.selects RX10 tX10_orders.1 tX10_orders.1 ∈ lw_tbl := inT_6 _ (List.mem_of_getElem? (i := 134) rfl)
def tX10_prints : Mt := (yX10_prints, cX10_prints, 5, (some .int))
set_option maxRecDepth 100000 in
theorem mfX10_prints : MF tX10_prints 2 := ⟨inT_5 _ (List.mem_of_getElem? (i := 159) rfl), inT_1 _ (List.mem_of_getElem? (i := 11) rfl), by decide +kernel⟩
set_option maxRecDepth 100000 in
theorem imX10_prints : Cond.instanceMethod tX10_prints.1 ∈ lw_tbl := inT_5 _ (List.mem_of_getElem? (i := 157) rfl)
set_option maxRecDepth 100000 in
theorem selX10_prints : Cond.selects RX10 tX10_prints.1 tX10_prints.1 ∈ lw_tbl := inT_5 _ (List.mem_of_getElem? (i := 158) rfl)
def tX10_photo : Mt := (yX10_photo, cX10_photo, 7, (some .int))
set_option maxRecDepth 100000 in
theorem mfX10_photo : MF tX10_photo 4 := ⟨inT_6 _ (List.mem_of_getElem? (i := 143) rfl), inT_1 _ (List.mem_of_getElem? (i := 11) rfl), by decide +kernel⟩
set_option maxRecDepth 100000 in
theorem imX10_photo : Cond.instanceMethod tX10_photo.1 ∈ lw_tbl := inT_6 _ (List.mem_of_getElem? (i := 141) rfl)
set_option maxRecDepth 100000 in
theorem selX10_photo : Cond.selects RX10 tX10_photo.1 tX10_photo.1 ∈ lw_tbl := inT_6 _ (List.mem_of_getElem? (i := 142) rfl)
def tX10_seek : Mt := (yX10_seek, cX10_seek, 5, none)
set_option maxRecDepth 100000 in
theorem mfX10_seek : MF tX10_seek 3 := ⟨inT_6 _ (List.mem_of_getElem? (i := 91) rfl), inT_1 _ (List.mem_of_getElem? (i := 11) rfl), by decide +kernel⟩
set_option maxRecDepth 100000 in
theorem imX10_seek : Cond.instanceMethod tX10_seek.1 ∈ lw_tbl := inT_6 _ (List.mem_of_getElem? (i := 90) rfl)
set_option maxRecDepth 100000 in
theorem selX10_seek : Cond.selects RX10 tX10_seek.1 tX10_seek.1 ∈ lw_tbl := inS _ (List.mem_of_getElem? (i := 76) rfl)
def tX10_settle : Mt := (yX10_settle, cX10_settle, 3, (some .boolean))
set_option maxRecDepth 100000 in
theorem mfX10_settle : MF tX10_settle 1 := ⟨inT_6 _ (List.mem_of_getElem? (i := 115) rfl), inT_1 _ (List.mem_of_getElem? (i := 11) rfl), by decide +kernel⟩
set_option maxRecDepth 100000 in
theorem imX10_settle : Cond.instanceMethod tX10_settle.1 ∈ lw_tbl := inT_6 _ (List.mem_of_getElem? (i := 113) rfl)
set_option maxRecDepth 100000 in
theorem selX10_settle : Cond.selects RX10 tX10_settle.1 tX10_settle.1 ∈ lw_tbl := inT_6 _ (List.mem_of_getElem? (i := 114) rfl)
def tX10_shownIn : Mt := (yX10_shownIn, cX10_shownIn, 10, (some .int))
set_option maxRecDepth 100000 in
theorem mfX10_shownIn : MF tX10_shownIn 2 := ⟨inT_6 _ (List.mem_of_getElem? (i := 127) rfl), inT_1 _ (List.mem_of_getElem? (i := 11) rfl), by decide +kernel⟩
set_option maxRecDepth 100000 in
theorem imX10_shownIn : Cond.instanceMethod tX10_shownIn.1 ∈ lw_tbl := inT_6 _ (List.mem_of_getElem? (i := 126) rfl)
set_option maxRecDepth 100000 in
theorem selX10_shownIn : Cond.selects RX10 tX10_shownIn.1 tX10_shownIn.1 ∈ lw_tbl := inS _ (List.mem_of_getElem? (i := 79) rfl)
def tX10_shown : Mt := (yX10_shown, cX10_shown, 4, (some .int))
set_option maxRecDepth 100000 in
theorem mfX10_shown : MF tX10_shown 3 := ⟨inT_6 _ (List.mem_of_getElem? (i := 123) rfl), inT_1 _ (List.mem_of_getElem? (i := 11) rfl), by decide +kernel⟩
set_option maxRecDepth 100000 in
theorem imX10_shown : Cond.instanceMethod tX10_shown.1 ∈ lw_tbl := inT_6 _ (List.mem_of_getElem? (i := 121) rfl)
set_option maxRecDepth 100000 in
theorem selX10_shown : Cond.selects RX10 tX10_shown.1 tX10_shown.1 ∈ lw_tbl := inT_6 _ (List.mem_of_getElem? (i := 122) rfl)
def tX10_snow : Mt := (yX10_snow, cX10_snow, 2, (some .int))
set_option maxRecDepth 100000 in
theorem mfX10_snow : MF tX10_snow 1 := ⟨inT_6 _ (List.mem_of_getElem? (i := 119) rfl), inT_1 _ (List.mem_of_getElem? (i := 11) rfl), by decide +kernel⟩
set_option maxRecDepth 100000 in
theorem imX10_snow : Cond.instanceMethod tX10_snow.1 ∈ lw_tbl := inT_6 _ (List.mem_of_getElem? (i := 117) rfl)
set_option maxRecDepth 100000 in
theorem selX10_snow : Cond.selects RX10 tX10_snow.1 tX10_snow.1 ∈ lw_tbl := inT_6 _ (List.mem_of_getElem? (i := 118) rfl)
def tX10_span : Mt := (yX10_span, cX10_span, 2, (some .int))
set_option maxRecDepth 100000 in
theorem mfX10_span : MF tX10_span 1 := ⟨inT_6 _ (List.mem_of_getElem? (i := 51) rfl), inT_1 _ (List.mem_of_getElem? (i := 11) rfl), by decide +kernel⟩
set_option maxRecDepth 100000 in
theorem imX10_span : Cond.instanceMethod tX10_span.1 ∈ lw_tbl := inT_6 _ (List.mem_of_getElem? (i := 49) rfl)
set_option maxRecDepth 100000 in
theorem selX10_span : Cond.selects RX10 tX10_span.1 tX10_span.1 ∈ lw_tbl := inT_6 _ (List.mem_of_getElem? (i := 50) rfl)
def tX10_start : Mt := (yX10_start, cX10_start, 3, (some .boolean))
set_option maxRecDepth 100000 in
theorem mfX10_start : MF tX10_start 2 := ⟨inT_6 _ (List.mem_of_getElem? (i := 99) rfl), inT_1 _ (List.mem_of_getElem? (i := 11) rfl), by decide +kernel⟩
set_option maxRecDepth 100000 in
theorem imX10_start : Cond.instanceMethod tX10_start.1 ∈ lw_tbl := inT_6 _ (List.mem_of_getElem? (i := 97) rfl)
set_option maxRecDepth 100000 in
theorem selX10_start : Cond.selects RX10 tX10_start.1 tX10_start.1 ∈ lw_tbl := inT_6 _ (List.mem_of_getElem? (i := 98) rfl)
def tX10_sure : Mt := (yX10_sure, cX10_sure, 6, (some .int))
set_option maxRecDepth 100000 in
theorem mfX10_sure : MF tX10_sure 5 := ⟨inT_6 _ (List.mem_of_getElem? (i := 39) rfl), inT_1 _ (List.mem_of_getElem? (i := 11) rfl), by decide +kernel⟩
set_option maxRecDepth 100000 in
theorem imX10_sure : Cond.instanceMethod tX10_sure.1 ∈ lw_tbl := inT_6 _ (List.mem_of_getElem? (i := 37) rfl)
set_option maxRecDepth 100000 in
theorem selX10_sure : Cond.selects RX10 tX10_sure.1 tX10_sure.1 ∈ lw_tbl := inT_6 _ (List.mem_of_getElem? (i := 38) rfl)
def tX10_thrown : Mt := (yX10_thrown, cX10_thrown, 1, (some .int))
set_option maxRecDepth 100000 in
theorem mfX10_thrown : MF tX10_thrown 0 := ⟨inT_5 _ (List.mem_of_getElem? (i := 55) rfl), inT_1 _ (List.mem_of_getElem? (i := 11) rfl), by decide +kernel⟩
set_option maxRecDepth 100000 in
theorem imX10_thrown : Cond.instanceMethod tX10_thrown.1 ∈ lw_tbl := inT_5 _ (List.mem_of_getElem? (i := 53) rfl)
set_option maxRecDepth 100000 in
theorem selX10_thrown : Cond.selects RX10 tX10_thrown.1 tX10_thrown.1 ∈ lw_tbl := inT_5 _ (List.mem_of_getElem? (i := 54) rfl)
def tX10_told : Mt := (yX10_told, cX10_told, 5, (some .int))
set_option maxRecDepth 100000 in
theorem mfX10_told : MF tX10_told 2 := ⟨inT_5 _ (List.mem_of_getElem? (i := 127) rfl), inT_1 _ (List.mem_of_getElem? (i := 11) rfl), by decide +kernel⟩
set_option maxRecDepth 100000 in
theorem imX10_told : Cond.instanceMethod tX10_told.1 ∈ lw_tbl := inT_5 _ (List.mem_of_getElem? (i := 125) rfl)
set_option maxRecDepth 100000 in
theorem selX10_told : Cond.selects RX10 tX10_told.1 tX10_told.1 ∈ lw_tbl := inT_5 _ (List.mem_of_getElem? (i := 126) rfl)
def tX10_top : Mt := (yX10_top, cX10_top, 6, (some .int))
set_option maxRecDepth 100000 in
theorem mfX10_top : MF tX10_top 2 := ⟨inT_6 _ (List.mem_of_getElem? (i := 111) rfl), inT_1 _ (List.mem_of_getElem? (i := 11) rfl), by decide +kernel⟩
set_option maxRecDepth 100000 in
theorem imX10_top : Cond.instanceMethod tX10_top.1 ∈ lw_tbl := inT_6 _ (List.mem_of_getElem? (i := 109) rfl)
set_option maxRecDepth 100000 in
theorem selX10_top : Cond.selects RX10 tX10_top.1 tX10_top.1 ∈ lw_tbl := inT_6 _ (List.mem_of_getElem? (i := 110) rfl)
def tX10_trail : Mt := (yX10_trail, cX10_trail, 5, (some .int))
set_option maxRecDepth 100000 in
theorem mfX10_trail : MF tX10_trail 2 := ⟨inT_6 _ (List.mem_of_getElem? (i := 131) rfl), inT_1 _ (List.mem_of_getElem? (i := 11) rfl), by decide +kernel⟩
set_option maxRecDepth 100000 in
theorem imX10_trail : Cond.instanceMethod tX10_trail.1 ∈ lw_tbl := inT_6 _ (List.mem_of_getElem? (i := 129) rfl)
set_option maxRecDepth 100000 in
theorem selX10_trail : Cond.selects RX10 tX10_trail.1 tX10_trail.1 ∈ lw_tbl := inT_6 _ (List.mem_of_getElem? (i := 130) rfl)
def tX10_undo : Mt := (yX10_undo, cX10_undo, 1, (some .int))
set_option maxRecDepth 100000 in
theorem mfX10_undo : MF tX10_undo 0 := ⟨inT_5 _ (List.mem_of_getElem? (i := 176) rfl), inT_1 _ (List.mem_of_getElem? (i := 11) rfl), by decide +kernel⟩
set_option maxRecDepth 100000 in
theorem imX10_undo : Cond.instanceMethod tX10_undo.1 ∈ lw_tbl := inT_5 _ (List.mem_of_getElem? (i := 174) rfl)
set_option maxRecDepth 100000 in
theorem selX10_undo : Cond.selects RX10 tX10_undo.1 tX10_undo.1 ∈ lw_tbl := inT_5 _ (List.mem_of_getElem? (i := 175) rfl)
def tX10_walk : Mt := (yX10_walk, cX10_walk, 4, (some .int))
set_option maxRecDepth 100000 in
theorem mfX10_walk : MF tX10_walk 2 := ⟨inT_5 _ (List.mem_of_getElem? (i := 123) rfl), inT_1 _ (List.mem_of_getElem? (i := 11) rfl), by decide +kernel⟩
set_option maxRecDepth 100000 in
theorem imX10_walk : Cond.instanceMethod tX10_walk.1 ∈ lw_tbl := inT_5 _ (List.mem_of_getElem? (i := 121) rfl)
set_option maxRecDepth 100000 in
theorem selX10_walk : Cond.selects RX10 tX10_walk.1 tX10_walk.1 ∈ lw_tbl := inT_5 _ (List.mem_of_getElem? (i := 122) rfl)
def tX10_walkers : Mt := (yX10_walkers, cX10_walkers, 2, (some .int))
set_option maxRecDepth 100000 in
theorem mfX10_walkers : MF tX10_walkers 1 := ⟨inT_6 _ (List.mem_of_getElem? (i := 87) rfl), inT_1 _ (List.mem_of_getElem? (i := 11) rfl), by decide +kernel⟩
set_option maxRecDepth 100000 in
theorem imX10_walkers : Cond.instanceMethod tX10_walkers.1 ∈ lw_tbl := inT_6 _ (List.mem_of_getElem? (i := 85) rfl)
set_option maxRecDepth 100000 in
theorem selX10_walkers : Cond.selects RX10 tX10_walkers.1 tX10_walkers.1 ∈ lw_tbl := inT_6 _ (List.mem_of_getElem? (i := 86) rfl)
def tX10_where : Mt := (yX10_where, cX10_where, 3, (some .int))
set_option maxRecDepth 100000 in
theorem mfX10_where : MF tX10_where 2 := ⟨inT_5 _ (List.mem_of_getElem? (i := 143) rfl), inT_1 _ (List.mem_of_getElem? (i := 11) rfl), by decide +kernel⟩
set_option maxRecDepth 100000 in
theorem imX10_where : Cond.instanceMethod tX10_where.1 ∈ lw_tbl := inT_5 _ (List.mem_of_getElem? (i := 141) rfl)
set_option maxRecDepth 100000 in
theorem selX10_where : Cond.selects RX10 tX10_where.1 tX10_where.1 ∈ lw_tbl := inT_5 _ (List.mem_of_getElem? (i := 142) rfl)
def tX10_words : Mt := (yX10_words, cX10_words, 4, (some .int))
set_option maxRecDepth 100000 in
theorem mfX10_words : MF tX10_words 1 := ⟨inT_5 _ (List.mem_of_getElem? (i := 180) rfl), inT_1 _ (List.mem_of_getElem? (i := 11) rfl), by decide +kernel⟩
set_option maxRecDepth 100000 in
theorem imX10_words : Cond.instanceMethod tX10_words.1 ∈ lw_tbl := inT_5 _ (List.mem_of_getElem? (i := 178) rfl)
set_option maxRecDepth 100000 in
theorem selX10_words : Cond.selects RX10 tX10_words.1 tX10_words.1 ∈ lw_tbl := inT_5 _ (List.mem_of_getElem? (i := 179) rfl)
def tX1_goOver : Mt := (yX1_goOver, cX1_goOver, 9, none)
set_option maxRecDepth 100000 in
theorem mfX1_goOver : MF tX1_goOver 4 := ⟨inT_3 _ (List.mem_of_getElem? (i := 93) rfl), inT_1 _ (List.mem_of_getElem? (i := 4) rfl), by decide +kernel⟩
set_option maxRecDepth 100000 in
theorem imX1_goOver : Cond.instanceMethod tX1_goOver.1 ∈ lw_tbl := inT_3 _ (List.mem_of_getElem? (i := 92) rfl)
set_option maxRecDepth 100000 in
theorem selX1_goOver : Cond.selects RX1 tX1_goOver.1 tX1_goOver.1 ∈ lw_tbl := inS _ (List.mem_of_getElem? (i := 20) rfl)
def tX1_isRoundTripAbove : Mt := (yX1_isRoundTripAbove, cX1_isRoundTripAbove, 3, (some .boolean))
set_option maxRecDepth 100000 in
theorem mfX1_isRoundTripAbove : MF tX1_isRoundTripAbove 1 := ⟨inT_3 _ (List.mem_of_getElem? (i := 101) rfl), inT_1 _ (List.mem_of_getElem? (i := 4) rfl), by decide +kernel⟩
set_option maxRecDepth 100000 in
theorem imX1_isRoundTripAbove : Cond.instanceMethod tX1_isRoundTripAbove.1 ∈ lw_tbl := inT_3 _ (List.mem_of_getElem? (i := 100) rfl)
set_option maxRecDepth 100000 in
theorem selX1_isRoundTripAbove : Cond.selects RX1 tX1_isRoundTripAbove.1 tX1_isRoundTripAbove.1 ∈ lw_tbl := inS _ (List.mem_of_getElem? (i := 21) rfl)
def tX1_fewest : Mt := (yX1_fewest, cX1_fewest, 8, (some .int))
set_option maxRecDepth 100000 in
theorem mfX1_fewest : MF tX1_fewest 4 := ⟨inT_3 _ (List.mem_of_getElem? (i := 85) rfl), inT_1 _ (List.mem_of_getElem? (i := 4) rfl), by decide +kernel⟩
set_option maxRecDepth 100000 in
theorem imX1_fewest : Cond.instanceMethod tX1_fewest.1 ∈ lw_tbl := inT_3 _ (List.mem_of_getElem? (i := 83) rfl)
set_option maxRecDepth 100000 in
theorem selX1_fewest : Cond.selects RX1 tX1_fewest.1 tX1_fewest.1 ∈ lw_tbl := inT_3 _ (List.mem_of_getElem? (i := 84) rfl)
def tX1_init : Mt := (yX1_init, cX1_init, 1, none)
set_option maxRecDepth 100000 in
theorem mfX1_init : MF tX1_init 0 := ⟨inT_1 _ (List.mem_of_getElem? (i := 85) rfl), inT_1 _ (List.mem_of_getElem? (i := 4) rfl), by decide +kernel⟩
set_option maxRecDepth 100000 in
theorem imX1_init : Cond.instanceMethod tX1_init.1 ∈ lw_tbl := inT_1 _ (List.mem_of_getElem? (i := 84) rfl)
def tX2_init : Mt := (yX2_init, cX2_init, 1, none)
set_option maxRecDepth 100000 in
theorem mfX2_init : MF tX2_init 0 := ⟨inT_1 _ (List.mem_of_getElem? (i := 202) rfl), inT_1 _ (List.mem_of_getElem? (i := 10) rfl), by decide +kernel⟩
set_option maxRecDepth 100000 in
theorem imX2_init : Cond.instanceMethod tX2_init.1 ∈ lw_tbl := inT_1 _ (List.mem_of_getElem? (i := 201) rfl)
def tX2_tell : Mt := (yX2_tell, cX2_tell, 6, none)
set_option maxRecDepth 100000 in
theorem mfX2_tell : MF tX2_tell 5 := ⟨inT_2 _ (List.mem_of_getElem? (i := 238) rfl), inT_1 _ (List.mem_of_getElem? (i := 10) rfl), by decide +kernel⟩
set_option maxRecDepth 100000 in
theorem imX2_tell : Cond.instanceMethod tX2_tell.1 ∈ lw_tbl := inT_2 _ (List.mem_of_getElem? (i := 236) rfl)
set_option maxRecDepth 100000 in
theorem selX2_tell : Cond.selects RX2 tX2_tell.1 tX2_tell.1 ∈ lw_tbl := inT_2 _ (List.mem_of_getElem? (i := 237) rfl)
def tX3_clear : Mt := (yX3_clear, cX3_clear, 1, none)
set_option maxRecDepth 100000 in
theorem mfX3_clear : MF tX3_clear 0 := ⟨inT_3 _ (List.mem_of_getElem? (i := 178) rfl), inT_1 _ (List.mem_of_getElem? (i := 7) rfl), by decide +kernel⟩
set_option maxRecDepth 100000 in
theorem imX3_clear : Cond.instanceMethod tX3_clear.1 ∈ lw_tbl := inT_3 _ (List.mem_of_getElem? (i := 176) rfl)
set_option maxRecDepth 100000 in
theorem selX3_clear : Cond.selects RX3 tX3_clear.1 tX3_clear.1 ∈ lw_tbl := inT_3 _ (List.mem_of_getElem? (i := 177) rfl)
def tX3_init : Mt := (yX3_init, cX3_init, 1, none)
set_option maxRecDepth 100000 in
theorem mfX3_init : MF tX3_init 0 := ⟨inT_1 _ (List.mem_of_getElem? (i := 149) rfl), inT_1 _ (List.mem_of_getElem? (i := 7) rfl), by decide +kernel⟩
set_option maxRecDepth 100000 in
theorem imX3_init : Cond.instanceMethod tX3_init.1 ∈ lw_tbl := inT_1 _ (List.mem_of_getElem? (i := 148) rfl)
def tX3_isBetter : Mt := (yX3_isBetter, cX3_isBetter, 2, (some .boolean))
set_option maxRecDepth 100000 in
theorem mfX3_isBetter : MF tX3_isBetter 1 := ⟨inT_3 _ (List.mem_of_getElem? (i := 194) rfl), inT_1 _ (List.mem_of_getElem? (i := 7) rfl), by decide +kernel⟩
set_option maxRecDepth 100000 in
theorem imX3_isBetter : Cond.instanceMethod tX3_isBetter.1 ∈ lw_tbl := inT_3 _ (List.mem_of_getElem? (i := 192) rfl)
set_option maxRecDepth 100000 in
theorem selX3_isBetter : Cond.selects RX3 tX3_isBetter.1 tX3_isBetter.1 ∈ lw_tbl := inT_3 _ (List.mem_of_getElem? (i := 193) rfl)
def tX3_offer : Mt := (yX3_offer, cX3_offer, 5, none)
set_option maxRecDepth 100000 in
theorem mfX3_offer : MF tX3_offer 4 := ⟨inT_3 _ (List.mem_of_getElem? (i := 198) rfl), inT_1 _ (List.mem_of_getElem? (i := 7) rfl), by decide +kernel⟩
set_option maxRecDepth 100000 in
theorem imX3_offer : Cond.instanceMethod tX3_offer.1 ∈ lw_tbl := inT_3 _ (List.mem_of_getElem? (i := 196) rfl)
set_option maxRecDepth 100000 in
theorem selX3_offer : Cond.selects RX3 tX3_offer.1 tX3_offer.1 ∈ lw_tbl := inT_3 _ (List.mem_of_getElem? (i := 197) rfl)
def tX4_clear : Mt := (yX4_clear, cX4_clear, 5, none)
set_option maxRecDepth 100000 in
theorem mfX4_clear : MF tX4_clear 2 := ⟨inT_3 _ (List.mem_of_getElem? (i := 38) rfl), inT_1 _ (List.mem_of_getElem? (i := 3) rfl), by decide +kernel⟩
set_option maxRecDepth 100000 in
theorem imX4_clear : Cond.instanceMethod tX4_clear.1 ∈ lw_tbl := inT_3 _ (List.mem_of_getElem? (i := 36) rfl)
set_option maxRecDepth 100000 in
theorem selX4_clear : Cond.selects RX4 tX4_clear.1 tX4_clear.1 ∈ lw_tbl := inT_3 _ (List.mem_of_getElem? (i := 37) rfl)
def tX4_firstOf : Mt := (yX4_firstOf, cX4_firstOf, 2, (some .int))
set_option maxRecDepth 100000 in
theorem mfX4_firstOf : MF tX4_firstOf 1 := ⟨inT_3 _ (List.mem_of_getElem? (i := 128) rfl), inT_1 _ (List.mem_of_getElem? (i := 3) rfl), by decide +kernel⟩
set_option maxRecDepth 100000 in
theorem imX4_firstOf : Cond.instanceMethod tX4_firstOf.1 ∈ lw_tbl := inT_3 _ (List.mem_of_getElem? (i := 126) rfl)
set_option maxRecDepth 100000 in
theorem selX4_firstOf : Cond.selects RX4 tX4_firstOf.1 tX4_firstOf.1 ∈ lw_tbl := inT_3 _ (List.mem_of_getElem? (i := 127) rfl)
def tX4_greatestGap : Mt := (yX4_greatestGap, cX4_greatestGap, 3, (some .int))
set_option maxRecDepth 100000 in
theorem mfX4_greatestGap : MF tX4_greatestGap 2 := ⟨inT_3 _ (List.mem_of_getElem? (i := 146) rfl), inT_1 _ (List.mem_of_getElem? (i := 3) rfl), by decide +kernel⟩
set_option maxRecDepth 100000 in
theorem imX4_greatestGap : Cond.instanceMethod tX4_greatestGap.1 ∈ lw_tbl := inT_3 _ (List.mem_of_getElem? (i := 144) rfl)
set_option maxRecDepth 100000 in
theorem selX4_greatestGap : Cond.selects RX4 tX4_greatestGap.1 tX4_greatestGap.1 ∈ lw_tbl := inT_3 _ (List.mem_of_getElem? (i := 145) rfl)
def tX4_lastOf : Mt := (yX4_lastOf, cX4_lastOf, 2, (some .int))
set_option maxRecDepth 100000 in
theorem mfX4_lastOf : MF tX4_lastOf 1 := ⟨inT_3 _ (List.mem_of_getElem? (i := 133) rfl), inT_1 _ (List.mem_of_getElem? (i := 3) rfl), by decide +kernel⟩
set_option maxRecDepth 100000 in
theorem imX4_lastOf : Cond.instanceMethod tX4_lastOf.1 ∈ lw_tbl := inT_3 _ (List.mem_of_getElem? (i := 131) rfl)
set_option maxRecDepth 100000 in
theorem selX4_lastOf : Cond.selects RX4 tX4_lastOf.1 tX4_lastOf.1 ∈ lw_tbl := inT_3 _ (List.mem_of_getElem? (i := 132) rfl)
def tX4_leastGap : Mt := (yX4_leastGap, cX4_leastGap, 3, (some .int))
set_option maxRecDepth 100000 in
theorem mfX4_leastGap : MF tX4_leastGap 2 := ⟨inT_3 _ (List.mem_of_getElem? (i := 142) rfl), inT_1 _ (List.mem_of_getElem? (i := 3) rfl), by decide +kernel⟩
set_option maxRecDepth 100000 in
theorem imX4_leastGap : Cond.instanceMethod tX4_leastGap.1 ∈ lw_tbl := inT_3 _ (List.mem_of_getElem? (i := 140) rfl)
set_option maxRecDepth 100000 in
theorem selX4_leastGap : Cond.selects RX4 tX4_leastGap.1 tX4_leastGap.1 ∈ lw_tbl := inT_3 _ (List.mem_of_getElem? (i := 141) rfl)
def tX4_spanWith : Mt := (yX4_spanWith, cX4_spanWith, 13, (some .int))
set_option maxRecDepth 100000 in
theorem mfX4_spanWith : MF tX4_spanWith 3 := ⟨inT_3 _ (List.mem_of_getElem? (i := 190) rfl), inT_1 _ (List.mem_of_getElem? (i := 3) rfl), by decide +kernel⟩
set_option maxRecDepth 100000 in
theorem imX4_spanWith : Cond.instanceMethod tX4_spanWith.1 ∈ lw_tbl := inT_3 _ (List.mem_of_getElem? (i := 188) rfl)
set_option maxRecDepth 100000 in
theorem selX4_spanWith : Cond.selects RX4 tX4_spanWith.1 tX4_spanWith.1 ∈ lw_tbl := inT_3 _ (List.mem_of_getElem? (i := 189) rfl)
def tX4_takes : Mt := (yX4_takes, cX4_takes, 2, (some .boolean))
set_option maxRecDepth 100000 in
theorem mfX4_takes : MF tX4_takes 1 := ⟨inT_3 _ (List.mem_of_getElem? (i := 46) rfl), inT_1 _ (List.mem_of_getElem? (i := 3) rfl), by decide +kernel⟩
set_option maxRecDepth 100000 in
theorem imX4_takes : Cond.instanceMethod tX4_takes.1 ∈ lw_tbl := inT_3 _ (List.mem_of_getElem? (i := 44) rfl)
set_option maxRecDepth 100000 in
theorem selX4_takes : Cond.selects RX4 tX4_takes.1 tX4_takes.1 ∈ lw_tbl := inT_3 _ (List.mem_of_getElem? (i := 45) rfl)
def tX4_wholeSpan : Mt := (yX4_wholeSpan, cX4_wholeSpan, 3, (some .int))
set_option maxRecDepth 100000 in
theorem mfX4_wholeSpan : MF tX4_wholeSpan 0 := ⟨inT_3 _ (List.mem_of_getElem? (i := 170) rfl), inT_1 _ (List.mem_of_getElem? (i := 3) rfl), by decide +kernel⟩
set_option maxRecDepth 100000 in
theorem imX4_wholeSpan : Cond.instanceMethod tX4_wholeSpan.1 ∈ lw_tbl := inT_3 _ (List.mem_of_getElem? (i := 168) rfl)
set_option maxRecDepth 100000 in
theorem selX4_wholeSpan : Cond.selects RX4 tX4_wholeSpan.1 tX4_wholeSpan.1 ∈ lw_tbl := inT_3 _ (List.mem_of_getElem? (i := 169) rfl)
def tX5_init : Mt := (yX5_init, cX5_init, 3, none)
set_option maxRecDepth 100000 in
theorem mfX5_init : MF tX5_init 2 := ⟨inT_1 _ (List.mem_of_getElem? (i := 178) rfl), inT_1 _ (List.mem_of_getElem? (i := 9) rfl), by decide +kernel⟩
set_option maxRecDepth 100000 in
theorem imX5_init : Cond.instanceMethod tX5_init.1 ∈ lw_tbl := inT_1 _ (List.mem_of_getElem? (i := 177) rfl)
def tX5_nextCell : Mt := (yX5_nextCell, cX5_nextCell, 5, (some .int))
set_option maxRecDepth 100000 in
theorem mfX5_nextCell : MF tX5_nextCell 2 := ⟨inT_2 _ (List.mem_of_getElem? (i := 178) rfl), inT_1 _ (List.mem_of_getElem? (i := 9) rfl), by decide +kernel⟩
set_option maxRecDepth 100000 in
theorem imX5_nextCell : Cond.instanceMethod tX5_nextCell.1 ∈ lw_tbl := inT_2 _ (List.mem_of_getElem? (i := 177) rfl)
set_option maxRecDepth 100000 in
theorem selX5_nextCell : Cond.selects RX5 tX5_nextCell.1 tX5_nextCell.1 ∈ lw_tbl := inS _ (List.mem_of_getElem? (i := 7) rfl)
def tX8_cellOf : Mt := (yX8_cellOf, cX8_cellOf, 2, (some .int))
set_option maxRecDepth 100000 in
theorem mfX8_cellOf : MF tX8_cellOf 1 := ⟨inT_2 _ (List.mem_of_getElem? (i := 170) rfl), inT_1 _ (List.mem_of_getElem? (i := 12) rfl), by decide +kernel⟩
set_option maxRecDepth 100000 in
theorem imX8_cellOf : Cond.instanceMethod tX8_cellOf.1 ∈ lw_tbl := inT_2 _ (List.mem_of_getElem? (i := 168) rfl)
set_option maxRecDepth 100000 in
theorem selX8_cellOf : Cond.selects RX8 tX8_cellOf.1 tX8_cellOf.1 ∈ lw_tbl := inT_2 _ (List.mem_of_getElem? (i := 169) rfl)
def tX8_leavePrint : Mt := (yX8_leavePrint, cX8_leavePrint, 2, none)
set_option maxRecDepth 100000 in
theorem mfX8_leavePrint : MF tX8_leavePrint 0 := ⟨inT_2 _ (List.mem_of_getElem? (i := 119) rfl), inT_1 _ (List.mem_of_getElem? (i := 12) rfl), by decide +kernel⟩
set_option maxRecDepth 100000 in
theorem imX8_leavePrint : Cond.instanceMethod tX8_leavePrint.1 ∈ lw_tbl := inT_2 _ (List.mem_of_getElem? (i := 118) rfl)
set_option maxRecDepth 100000 in
theorem selX8_leavePrint : Cond.selects RX8 tX8_leavePrint.1 tX8_leavePrint.1 ∈ lw_tbl := inS _ (List.mem_of_getElem? (i := 5) rfl)
def tX8_come : Mt := (yX8_come, cX8_come, 2, none)
set_option maxRecDepth 100000 in
theorem mfX8_come : MF tX8_come 1 := ⟨inT_2 _ (List.mem_of_getElem? (i := 174) rfl), inT_1 _ (List.mem_of_getElem? (i := 12) rfl), by decide +kernel⟩
set_option maxRecDepth 100000 in
theorem imX8_come : Cond.instanceMethod tX8_come.1 ∈ lw_tbl := inT_2 _ (List.mem_of_getElem? (i := 172) rfl)
set_option maxRecDepth 100000 in
theorem selX8_come : Cond.selects RX8 tX8_come.1 tX8_come.1 ∈ lw_tbl := inT_2 _ (List.mem_of_getElem? (i := 173) rfl)
def tX5_move : Mt := (yX5_move, cX5_move, 5, none)
set_option maxRecDepth 100000 in
theorem mfX5_move : MF tX5_move 2 := ⟨inT_2 _ (List.mem_of_getElem? (i := 166) rfl), inT_1 _ (List.mem_of_getElem? (i := 9) rfl), by decide +kernel⟩
set_option maxRecDepth 100000 in
theorem imX5_move : Cond.instanceMethod tX5_move.1 ∈ lw_tbl := inT_2 _ (List.mem_of_getElem? (i := 165) rfl)
set_option maxRecDepth 100000 in
theorem selX5_move : Cond.selects RX5 tX5_move.1 tX5_move.1 ∈ lw_tbl := inS _ (List.mem_of_getElem? (i := 6) rfl)
def tX7_byteAt : Mt := (yX7_byteAt, cX7_byteAt, 2, (some .int))
set_option maxRecDepth 100000 in
theorem mfX7_byteAt : MF tX7_byteAt 1 := ⟨inT_2 _ (List.mem_of_getElem? (i := 85) rfl), inT_1 _ (List.mem_of_getElem? (i := 2) rfl), by decide +kernel⟩
set_option maxRecDepth 100000 in
theorem imX7_byteAt : Cond.instanceMethod tX7_byteAt.1 ∈ lw_tbl := inT_2 _ (List.mem_of_getElem? (i := 83) rfl)
set_option maxRecDepth 100000 in
theorem selX7_byteAt : Cond.selects RX7 tX7_byteAt.1 tX7_byteAt.1 ∈ lw_tbl := inT_2 _ (List.mem_of_getElem? (i := 84) rfl)
def tX5_play : Mt := (yX5_play, cX5_play, 9, none)
set_option maxRecDepth 100000 in
theorem mfX5_play : MF tX5_play 2 := ⟨inT_2 _ (List.mem_of_getElem? (i := 160) rfl), inT_1 _ (List.mem_of_getElem? (i := 9) rfl), by decide +kernel⟩
set_option maxRecDepth 100000 in
theorem imX5_play : Cond.instanceMethod tX5_play.1 ∈ lw_tbl := inT_2 _ (List.mem_of_getElem? (i := 158) rfl)
set_option maxRecDepth 100000 in
theorem selX5_play : Cond.selects RX5 tX5_play.1 tX5_play.1 ∈ lw_tbl := inT_2 _ (List.mem_of_getElem? (i := 159) rfl)
def tX6_rises : Mt := (yX6_rises, cX6_rises, 7, (some .boolean))
set_option maxRecDepth 100000 in
theorem mfX6_rises : MF tX6_rises 3 := ⟨inT_4 _ (List.mem_of_getElem? (i := 72) rfl), inT_1 _ (List.mem_of_getElem? (i := 6) rfl), by decide +kernel⟩
set_option maxRecDepth 100000 in
theorem imX6_rises : Cond.instanceMethod tX6_rises.1 ∈ lw_tbl := inT_4 _ (List.mem_of_getElem? (i := 71) rfl)
set_option maxRecDepth 100000 in
theorem selX6_rises : Cond.selects RX6 tX6_rises.1 tX6_rises.1 ∈ lw_tbl := inS _ (List.mem_of_getElem? (i := 35) rfl)
def tX6_extend : Mt := (yX6_extend, cX6_extend, 5, none)
set_option maxRecDepth 100000 in
theorem mfX6_extend : MF tX6_extend 3 := ⟨inT_4 _ (List.mem_of_getElem? (i := 67) rfl), inT_1 _ (List.mem_of_getElem? (i := 6) rfl), by decide +kernel⟩
set_option maxRecDepth 100000 in
theorem imX6_extend : Cond.instanceMethod tX6_extend.1 ∈ lw_tbl := inT_4 _ (List.mem_of_getElem? (i := 66) rfl)
set_option maxRecDepth 100000 in
theorem selX6_extend : Cond.selects RX6 tX6_extend.1 tX6_extend.1 ∈ lw_tbl := inS _ (List.mem_of_getElem? (i := 34) rfl)
def tX6_init : Mt := (yX6_init, cX6_init, 2, none)
set_option maxRecDepth 100000 in
theorem mfX6_init : MF tX6_init 0 := ⟨inT_1 _ (List.mem_of_getElem? (i := 123) rfl), inT_1 _ (List.mem_of_getElem? (i := 6) rfl), by decide +kernel⟩
set_option maxRecDepth 100000 in
theorem imX6_init : Cond.instanceMethod tX6_init.1 ∈ lw_tbl := inT_1 _ (List.mem_of_getElem? (i := 122) rfl)
def tX6_seek : Mt := (yX6_seek, cX6_seek, 4, none)
set_option maxRecDepth 100000 in
theorem mfX6_seek : MF tX6_seek 3 := ⟨inT_4 _ (List.mem_of_getElem? (i := 61) rfl), inT_1 _ (List.mem_of_getElem? (i := 6) rfl), by decide +kernel⟩
set_option maxRecDepth 100000 in
theorem imX6_seek : Cond.instanceMethod tX6_seek.1 ∈ lw_tbl := inT_4 _ (List.mem_of_getElem? (i := 59) rfl)
set_option maxRecDepth 100000 in
theorem selX6_seek : Cond.selects RX6 tX6_seek.1 tX6_seek.1 ∈ lw_tbl := inT_4 _ (List.mem_of_getElem? (i := 60) rfl)
def tX7_append : Mt := (yX7_append, cX7_append, 4, (some .boolean))
set_option maxRecDepth 100000 in
theorem mfX7_append : MF tX7_append 1 := ⟨inT_2 _ (List.mem_of_getElem? (i := 57) rfl), inT_1 _ (List.mem_of_getElem? (i := 2) rfl), by decide +kernel⟩
set_option maxRecDepth 100000 in
theorem imX7_append : Cond.instanceMethod tX7_append.1 ∈ lw_tbl := inT_2 _ (List.mem_of_getElem? (i := 55) rfl)
set_option maxRecDepth 100000 in
theorem selX7_append : Cond.selects RX7 tX7_append.1 tX7_append.1 ∈ lw_tbl := inT_2 _ (List.mem_of_getElem? (i := 56) rfl)
def tX7_cut : Mt := (yX7_cut, cX7_cut, 2, (some .boolean))
set_option maxRecDepth 100000 in
theorem mfX7_cut : MF tX7_cut 1 := ⟨inT_2 _ (List.mem_of_getElem? (i := 61) rfl), inT_1 _ (List.mem_of_getElem? (i := 2) rfl), by decide +kernel⟩
set_option maxRecDepth 100000 in
theorem imX7_cut : Cond.instanceMethod tX7_cut.1 ∈ lw_tbl := inT_2 _ (List.mem_of_getElem? (i := 59) rfl)
set_option maxRecDepth 100000 in
theorem selX7_cut : Cond.selects RX7 tX7_cut.1 tX7_cut.1 ∈ lw_tbl := inT_2 _ (List.mem_of_getElem? (i := 60) rfl)
def tX7_init : Mt := (yX7_init, cX7_init, 1, none)
set_option maxRecDepth 100000 in
theorem mfX7_init : MF tX7_init 0 := ⟨inT_1 _ (List.mem_of_getElem? (i := 32) rfl), inT_1 _ (List.mem_of_getElem? (i := 2) rfl), by decide +kernel⟩
set_option maxRecDepth 100000 in
theorem imX7_init : Cond.instanceMethod tX7_init.1 ∈ lw_tbl := inT_1 _ (List.mem_of_getElem? (i := 31) rfl)
def tX7_isDigit : Mt := (yX7_isDigit, cX7_isDigit, 1, (some .boolean))
set_option maxRecDepth 100000 in
theorem mfX7_isDigit : MF tX7_isDigit 1 := ⟨inT_2 _ (List.mem_of_getElem? (i := 92) rfl), inT_1 _ (List.mem_of_getElem? (i := 2) rfl), by decide +kernel⟩
set_option maxRecDepth 100000 in
theorem smX7_isDigit : Cond.static tX7_isDigit.1 ∈ lw_tbl := inT_2 _ (List.mem_of_getElem? (i := 91) rfl)
def tX7_isMove : Mt := (yX7_isMove, cX7_isMove, 1, (some .boolean))
set_option maxRecDepth 100000 in
theorem mfX7_isMove : MF tX7_isMove 1 := ⟨inT_2 _ (List.mem_of_getElem? (i := 99) rfl), inT_1 _ (List.mem_of_getElem? (i := 2) rfl), by decide +kernel⟩
set_option maxRecDepth 100000 in
theorem smX7_isMove : Cond.static tX7_isMove.1 ∈ lw_tbl := inT_2 _ (List.mem_of_getElem? (i := 98) rfl)
def tX7_skipBlanks : Mt := (yX7_skipBlanks, cX7_skipBlanks, 1, none)
set_option maxRecDepth 100000 in
theorem mfX7_skipBlanks : MF tX7_skipBlanks 0 := ⟨inT_2 _ (List.mem_of_getElem? (i := 81) rfl), inT_1 _ (List.mem_of_getElem? (i := 2) rfl), by decide +kernel⟩
set_option maxRecDepth 100000 in
theorem imX7_skipBlanks : Cond.instanceMethod tX7_skipBlanks.1 ∈ lw_tbl := inT_2 _ (List.mem_of_getElem? (i := 80) rfl)
set_option maxRecDepth 100000 in
theorem selX7_skipBlanks : Cond.selects RX7 tX7_skipBlanks.1 tX7_skipBlanks.1 ∈ lw_tbl := inS _ (List.mem_of_getElem? (i := 1) rfl)
def tX7_reads : Mt := (yX7_reads, cX7_reads, 2, (some .boolean))
set_option maxRecDepth 100000 in
theorem mfX7_reads : MF tX7_reads 1 := ⟨inT_2 _ (List.mem_of_getElem? (i := 77) rfl), inT_1 _ (List.mem_of_getElem? (i := 2) rfl), by decide +kernel⟩
set_option maxRecDepth 100000 in
theorem imX7_reads : Cond.instanceMethod tX7_reads.1 ∈ lw_tbl := inT_2 _ (List.mem_of_getElem? (i := 76) rfl)
set_option maxRecDepth 100000 in
theorem selX7_reads : Cond.selects RX7 tX7_reads.1 tX7_reads.1 ∈ lw_tbl := inS _ (List.mem_of_getElem? (i := 0) rfl)
def tX7_readsMoves : Mt := (yX7_readsMoves, cX7_readsMoves, 5, (some .boolean))
set_option maxRecDepth 100000 in
theorem mfX7_readsMoves : MF tX7_readsMoves 0 := ⟨inT_2 _ (List.mem_of_getElem? (i := 96) rfl), inT_1 _ (List.mem_of_getElem? (i := 2) rfl), by decide +kernel⟩
set_option maxRecDepth 100000 in
theorem imX7_readsMoves : Cond.instanceMethod tX7_readsMoves.1 ∈ lw_tbl := inT_2 _ (List.mem_of_getElem? (i := 95) rfl)
set_option maxRecDepth 100000 in
theorem selX7_readsMoves : Cond.selects RX7 tX7_readsMoves.1 tX7_readsMoves.1 ∈ lw_tbl := inS _ (List.mem_of_getElem? (i := 3) rfl)
def tX7_readsNumber : Mt := (yX7_readsNumber, cX7_readsNumber, 2, (some .boolean))
set_option maxRecDepth 100000 in
theorem mfX7_readsNumber : MF tX7_readsNumber 1 := ⟨inT_2 _ (List.mem_of_getElem? (i := 89) rfl), inT_1 _ (List.mem_of_getElem? (i := 2) rfl), by decide +kernel⟩
set_option maxRecDepth 100000 in
theorem imX7_readsNumber : Cond.instanceMethod tX7_readsNumber.1 ∈ lw_tbl := inT_2 _ (List.mem_of_getElem? (i := 88) rfl)
set_option maxRecDepth 100000 in
theorem selX7_readsNumber : Cond.selects RX7 tX7_readsNumber.1 tX7_readsNumber.1 ∈ lw_tbl := inS _ (List.mem_of_getElem? (i := 2) rfl)
def tX7_wrongAt : Mt := (yX7_wrongAt, cX7_wrongAt, 3, (some .int))
set_option maxRecDepth 100000 in
theorem mfX7_wrongAt : MF tX7_wrongAt 2 := ⟨inT_2 _ (List.mem_of_getElem? (i := 73) rfl), inT_1 _ (List.mem_of_getElem? (i := 2) rfl), by decide +kernel⟩
set_option maxRecDepth 100000 in
theorem imX7_wrongAt : Cond.instanceMethod tX7_wrongAt.1 ∈ lw_tbl := inT_2 _ (List.mem_of_getElem? (i := 71) rfl)
set_option maxRecDepth 100000 in
theorem selX7_wrongAt : Cond.selects RX7 tX7_wrongAt.1 tX7_wrongAt.1 ∈ lw_tbl := inT_2 _ (List.mem_of_getElem? (i := 72) rfl)
def tX8_init : Mt := (yX8_init, cX8_init, 4, none)
set_option maxRecDepth 100000 in
theorem mfX8_init : MF tX8_init 3 := ⟨inT_2 _ (List.mem_of_getElem? (i := 111) rfl), inT_1 _ (List.mem_of_getElem? (i := 12) rfl), by decide +kernel⟩
set_option maxRecDepth 100000 in
theorem imX8_init : Cond.instanceMethod tX8_init.1 ∈ lw_tbl := inT_2 _ (List.mem_of_getElem? (i := 110) rfl)
def tX8_isPrint : Mt := (yX8_isPrint, cX8_isPrint, 2, (some .boolean))
set_option maxRecDepth 100000 in
theorem mfX8_isPrint : MF tX8_isPrint 1 := ⟨inT_4 _ (List.mem_of_getElem? (i := 48) rfl), inT_1 _ (List.mem_of_getElem? (i := 12) rfl), by decide +kernel⟩
set_option maxRecDepth 100000 in
theorem imX8_isPrint : Cond.instanceMethod tX8_isPrint.1 ∈ lw_tbl := inT_4 _ (List.mem_of_getElem? (i := 46) rfl)
set_option maxRecDepth 100000 in
theorem selX8_isPrint : Cond.selects RX8 tX8_isPrint.1 tX8_isPrint.1 ∈ lw_tbl := inT_4 _ (List.mem_of_getElem? (i := 47) rfl)
def tX8_latestIn : Mt := (yX8_latestIn, cX8_latestIn, 2, (some .int))
set_option maxRecDepth 100000 in
theorem mfX8_latestIn : MF tX8_latestIn 1 := ⟨inT_2 _ (List.mem_of_getElem? (i := 199) rfl), inT_1 _ (List.mem_of_getElem? (i := 12) rfl), by decide +kernel⟩
set_option maxRecDepth 100000 in
theorem imX8_latestIn : Cond.instanceMethod tX8_latestIn.1 ∈ lw_tbl := inT_2 _ (List.mem_of_getElem? (i := 197) rfl)
set_option maxRecDepth 100000 in
theorem selX8_latestIn : Cond.selects RX8 tX8_latestIn.1 tX8_latestIn.1 ∈ lw_tbl := inT_2 _ (List.mem_of_getElem? (i := 198) rfl)
def tX8_listPlaces : Mt := (yX8_listPlaces, cX8_listPlaces, 2, none)
set_option maxRecDepth 100000 in
theorem mfX8_listPlaces : MF tX8_listPlaces 0 := ⟨inT_2 _ (List.mem_of_getElem? (i := 182) rfl), inT_1 _ (List.mem_of_getElem? (i := 12) rfl), by decide +kernel⟩
set_option maxRecDepth 100000 in
theorem imX8_listPlaces : Cond.instanceMethod tX8_listPlaces.1 ∈ lw_tbl := inT_2 _ (List.mem_of_getElem? (i := 180) rfl)
set_option maxRecDepth 100000 in
theorem selX8_listPlaces : Cond.selects RX8 tX8_listPlaces.1 tX8_listPlaces.1 ∈ lw_tbl := inT_2 _ (List.mem_of_getElem? (i := 181) rfl)
def tX8_tickOf : Mt := (yX8_tickOf, cX8_tickOf, 2, (some .int))
set_option maxRecDepth 100000 in
theorem mfX8_tickOf : MF tX8_tickOf 1 := ⟨inT_4 _ (List.mem_of_getElem? (i := 19) rfl), inT_1 _ (List.mem_of_getElem? (i := 12) rfl), by decide +kernel⟩
set_option maxRecDepth 100000 in
theorem imX8_tickOf : Cond.instanceMethod tX8_tickOf.1 ∈ lw_tbl := inT_4 _ (List.mem_of_getElem? (i := 17) rfl)
set_option maxRecDepth 100000 in
theorem selX8_tickOf : Cond.selects RX8 tX8_tickOf.1 tX8_tickOf.1 ∈ lw_tbl := inT_4 _ (List.mem_of_getElem? (i := 18) rfl)
def tX9_drawNet : Mt := (yX9_drawNet, cX9_drawNet, 3, (some .int))
set_option maxRecDepth 100000 in
theorem mfX9_drawNet : MF tX9_drawNet 1 := ⟨inT_3 _ (List.mem_of_getElem? (i := 34) rfl), inT_1 _ (List.mem_of_getElem? (i := 1) rfl), by decide +kernel⟩
set_option maxRecDepth 100000 in
theorem imX9_drawNet : Cond.instanceMethod tX9_drawNet.1 ∈ lw_tbl := inT_3 _ (List.mem_of_getElem? (i := 33) rfl)
set_option maxRecDepth 100000 in
theorem selX9_drawNet : Cond.selects RX9 tX9_drawNet.1 tX9_drawNet.1 ∈ lw_tbl := inS _ (List.mem_of_getElem? (i := 18) rfl)
def tX9_isSet : Mt := (yX9_isSet, cX9_isSet, 2, (some .boolean))
set_option maxRecDepth 100000 in
theorem mfX9_isSet : MF tX9_isSet 1 := ⟨inT_3 _ (List.mem_of_getElem? (i := 30) rfl), inT_1 _ (List.mem_of_getElem? (i := 1) rfl), by decide +kernel⟩
set_option maxRecDepth 100000 in
theorem imX9_isSet : Cond.instanceMethod tX9_isSet.1 ∈ lw_tbl := inT_3 _ (List.mem_of_getElem? (i := 29) rfl)
set_option maxRecDepth 100000 in
theorem selX9_isSet : Cond.selects RX9 tX9_isSet.1 tX9_isSet.1 ∈ lw_tbl := inS _ (List.mem_of_getElem? (i := 17) rfl)
def tX9_canBe : Mt := (yX9_canBe, cX9_canBe, 2, (some .boolean))
set_option maxRecDepth 100000 in
theorem mfX9_canBe : MF tX9_canBe 1 := ⟨inT_3 _ (List.mem_of_getElem? (i := 124) rfl), inT_1 _ (List.mem_of_getElem? (i := 1) rfl), by decide +kernel⟩
set_option maxRecDepth 100000 in
theorem imX9_canBe : Cond.instanceMethod tX9_canBe.1 ∈ lw_tbl := inT_3 _ (List.mem_of_getElem? (i := 123) rfl)
set_option maxRecDepth 100000 in
theorem selX9_canBe : Cond.selects RX9 tX9_canBe.1 tX9_canBe.1 ∈ lw_tbl := inS _ (List.mem_of_getElem? (i := 24) rfl)
def tX9_verdict : Mt := (yX9_verdict, cX9_verdict, 4, (some .int))
set_option maxRecDepth 100000 in
theorem mfX9_verdict : MF tX9_verdict 3 := ⟨inT_3 _ (List.mem_of_getElem? (i := 158) rfl), inT_1 _ (List.mem_of_getElem? (i := 1) rfl), by decide +kernel⟩
set_option maxRecDepth 100000 in
theorem imX9_verdict : Cond.instanceMethod tX9_verdict.1 ∈ lw_tbl := inT_3 _ (List.mem_of_getElem? (i := 157) rfl)
set_option maxRecDepth 100000 in
theorem selX9_verdict : Cond.selects RX9 tX9_verdict.1 tX9_verdict.1 ∈ lw_tbl := inS _ (List.mem_of_getElem? (i := 25) rfl)
def tX9_ahead : Mt := (yX9_ahead, cX9_ahead, 4, (some .int))
set_option maxRecDepth 100000 in
theorem mfX9_ahead : MF tX9_ahead 3 := ⟨inT_3 _ (List.mem_of_getElem? (i := 162) rfl), inT_1 _ (List.mem_of_getElem? (i := 1) rfl), by decide +kernel⟩
set_option maxRecDepth 100000 in
theorem imX9_ahead : Cond.instanceMethod tX9_ahead.1 ∈ lw_tbl := inT_3 _ (List.mem_of_getElem? (i := 160) rfl)
set_option maxRecDepth 100000 in
theorem selX9_ahead : Cond.selects RX9 tX9_ahead.1 tX9_ahead.1 ∈ lw_tbl := inT_3 _ (List.mem_of_getElem? (i := 161) rfl)
def tX9_bars : Mt := (yX9_bars, cX9_bars, 2, (some .int))
set_option maxRecDepth 100000 in
theorem mfX9_bars : MF tX9_bars 1 := ⟨inT_3 _ (List.mem_of_getElem? (i := 71) rfl), inT_1 _ (List.mem_of_getElem? (i := 1) rfl), by decide +kernel⟩
set_option maxRecDepth 100000 in
theorem imX9_bars : Cond.instanceMethod tX9_bars.1 ∈ lw_tbl := inT_3 _ (List.mem_of_getElem? (i := 69) rfl)
set_option maxRecDepth 100000 in
theorem selX9_bars : Cond.selects RX9 tX9_bars.1 tX9_bars.1 ∈ lw_tbl := inT_3 _ (List.mem_of_getElem? (i := 70) rfl)
def tX9_begins : Mt := (yX9_begins, cX9_begins, 4, (some .int))
set_option maxRecDepth 100000 in
theorem mfX9_begins : MF tX9_begins 3 := ⟨inT_3 _ (List.mem_of_getElem? (i := 120) rfl), inT_1 _ (List.mem_of_getElem? (i := 1) rfl), by decide +kernel⟩
set_option maxRecDepth 100000 in
theorem imX9_begins : Cond.instanceMethod tX9_begins.1 ∈ lw_tbl := inT_3 _ (List.mem_of_getElem? (i := 118) rfl)
set_option maxRecDepth 100000 in
theorem selX9_begins : Cond.selects RX9 tX9_begins.1 tX9_begins.1 ∈ lw_tbl := inT_3 _ (List.mem_of_getElem? (i := 119) rfl)
def tX9_can : Mt := (yX9_can, cX9_can, 2, (some .int))
set_option maxRecDepth 100000 in
theorem mfX9_can : MF tX9_can 1 := ⟨inT_3 _ (List.mem_of_getElem? (i := 26) rfl), inT_1 _ (List.mem_of_getElem? (i := 1) rfl), by decide +kernel⟩
set_option maxRecDepth 100000 in
theorem imX9_can : Cond.instanceMethod tX9_can.1 ∈ lw_tbl := inT_3 _ (List.mem_of_getElem? (i := 24) rfl)
set_option maxRecDepth 100000 in
theorem selX9_can : Cond.selects RX9 tX9_can.1 tX9_can.1 ∈ lw_tbl := inT_3 _ (List.mem_of_getElem? (i := 25) rfl)
def tX9_cellAt : Mt := (yX9_cellAt, cX9_cellAt, 4, (some .int))
set_option maxRecDepth 100000 in
theorem mfX9_cellAt : MF tX9_cellAt 2 := ⟨inT_2 _ (List.mem_of_getElem? (i := 108) rfl), inT_1 _ (List.mem_of_getElem? (i := 1) rfl), by decide +kernel⟩
set_option maxRecDepth 100000 in
theorem imX9_cellAt : Cond.instanceMethod tX9_cellAt.1 ∈ lw_tbl := inT_2 _ (List.mem_of_getElem? (i := 107) rfl)
set_option maxRecDepth 100000 in
theorem selX9_cellAt : Cond.selects RX9 tX9_cellAt.1 tX9_cellAt.1 ∈ lw_tbl := inS _ (List.mem_of_getElem? (i := 4) rfl)
def tX9_core : Mt := (yX9_core, cX9_core, 2, (some .int))
set_option maxRecDepth 100000 in
theorem mfX9_core : MF tX9_core 1 := ⟨inT_3 _ (List.mem_of_getElem? (i := 75) rfl), inT_1 _ (List.mem_of_getElem? (i := 1) rfl), by decide +kernel⟩
set_option maxRecDepth 100000 in
theorem imX9_core : Cond.instanceMethod tX9_core.1 ∈ lw_tbl := inT_3 _ (List.mem_of_getElem? (i := 73) rfl)
set_option maxRecDepth 100000 in
theorem selX9_core : Cond.selects RX9 tX9_core.1 tX9_core.1 ∈ lw_tbl := inT_3 _ (List.mem_of_getElem? (i := 74) rfl)
def tX9_count : Mt := (yX9_count, cX9_count, 2, (some .int))
set_option maxRecDepth 100000 in
theorem mfX9_count : MF tX9_count 1 := ⟨inT_4 _ (List.mem_of_getElem? (i := 84) rfl), inT_1 _ (List.mem_of_getElem? (i := 1) rfl), by decide +kernel⟩
set_option maxRecDepth 100000 in
theorem imX9_count : Cond.instanceMethod tX9_count.1 ∈ lw_tbl := inT_4 _ (List.mem_of_getElem? (i := 82) rfl)
set_option maxRecDepth 100000 in
theorem selX9_count : Cond.selects RX9 tX9_count.1 tX9_count.1 ∈ lw_tbl := inT_4 _ (List.mem_of_getElem? (i := 83) rfl)
def tX9_crossings : Mt := (yX9_crossings, cX9_crossings, 8, (some .int))
set_option maxRecDepth 100000 in
theorem mfX9_crossings : MF tX9_crossings 3 := ⟨inT_3 _ (List.mem_of_getElem? (i := 150) rfl), inT_1 _ (List.mem_of_getElem? (i := 1) rfl), by decide +kernel⟩
set_option maxRecDepth 100000 in
theorem imX9_crossings : Cond.instanceMethod tX9_crossings.1 ∈ lw_tbl := inT_3 _ (List.mem_of_getElem? (i := 148) rfl)
set_option maxRecDepth 100000 in
theorem selX9_crossings : Cond.selects RX9 tX9_crossings.1 tX9_crossings.1 ∈ lw_tbl := inT_3 _ (List.mem_of_getElem? (i := 149) rfl)
def tX9_end : Mt := (yX9_end, cX9_end, 2, (some .boolean))
set_option maxRecDepth 100000 in
theorem mfX9_end : MF tX9_end 1 := ⟨inT_2 _ (List.mem_of_getElem? (i := 65) rfl), inT_1 _ (List.mem_of_getElem? (i := 1) rfl), by decide +kernel⟩
set_option maxRecDepth 100000 in
theorem imX9_end : Cond.instanceMethod tX9_end.1 ∈ lw_tbl := inT_2 _ (List.mem_of_getElem? (i := 63) rfl)
set_option maxRecDepth 100000 in
theorem selX9_end : Cond.selects RX9 tX9_end.1 tX9_end.1 ∈ lw_tbl := inT_2 _ (List.mem_of_getElem? (i := 64) rfl)
def tX9_isWho : Mt := (yX9_isWho, cX9_isWho, 1, (some .boolean))
set_option maxRecDepth 100000 in
theorem mfX9_isWho : MF tX9_isWho 1 := ⟨inT_2 _ (List.mem_of_getElem? (i := 214) rfl), inT_1 _ (List.mem_of_getElem? (i := 1) rfl), by decide +kernel⟩
set_option maxRecDepth 100000 in
theorem smX9_isWho : Cond.static tX9_isWho.1 ∈ lw_tbl := inT_2 _ (List.mem_of_getElem? (i := 213) rfl)
def tX9_printsIn : Mt := (yX9_printsIn, cX9_printsIn, 4, (some .boolean))
set_option maxRecDepth 100000 in
theorem mfX9_printsIn : MF tX9_printsIn 2 := ⟨inT_2 _ (List.mem_of_getElem? (i := 207) rfl), inT_1 _ (List.mem_of_getElem? (i := 1) rfl), by decide +kernel⟩
set_option maxRecDepth 100000 in
theorem imX9_printsIn : Cond.instanceMethod tX9_printsIn.1 ∈ lw_tbl := inT_2 _ (List.mem_of_getElem? (i := 206) rfl)
set_option maxRecDepth 100000 in
theorem selX9_printsIn : Cond.selects RX9 tX9_printsIn.1 tX9_printsIn.1 ∈ lw_tbl := inS _ (List.mem_of_getElem? (i := 9) rfl)
def tX9_isCrossing : Mt := (yX9_isCrossing, cX9_isCrossing, 4, (some .boolean))
set_option maxRecDepth 100000 in
theorem mfX9_isCrossing : MF tX9_isCrossing 3 := ⟨inT_2 _ (List.mem_of_getElem? (i := 222) rfl), inT_1 _ (List.mem_of_getElem? (i := 1) rfl), by decide +kernel⟩
set_option maxRecDepth 100000 in
theorem imX9_isCrossing : Cond.instanceMethod tX9_isCrossing.1 ∈ lw_tbl := inT_2 _ (List.mem_of_getElem? (i := 221) rfl)
set_option maxRecDepth 100000 in
theorem selX9_isCrossing : Cond.selects RX9 tX9_isCrossing.1 tX9_isCrossing.1 ∈ lw_tbl := inS _ (List.mem_of_getElem? (i := 11) rfl)
def tX9_keep : Mt := (yX9_keep, cX9_keep, 6, (some .int))
set_option maxRecDepth 100000 in
theorem mfX9_keep : MF tX9_keep 5 := ⟨inT_2 _ (List.mem_of_getElem? (i := 234) rfl), inT_1 _ (List.mem_of_getElem? (i := 1) rfl), by decide +kernel⟩
set_option maxRecDepth 100000 in
theorem imX9_keep : Cond.instanceMethod tX9_keep.1 ∈ lw_tbl := inT_2 _ (List.mem_of_getElem? (i := 233) rfl)
set_option maxRecDepth 100000 in
theorem selX9_keep : Cond.selects RX9 tX9_keep.1 tX9_keep.1 ∈ lw_tbl := inS _ (List.mem_of_getElem? (i := 13) rfl)
def tX9_leadToLieAbove : Mt := (yX9_leadToLieAbove, cX9_leadToLieAbove, 6, (some .int))
set_option maxRecDepth 100000 in
theorem mfX9_leadToLieAbove : MF tX9_leadToLieAbove 3 := ⟨inT_2 _ (List.mem_of_getElem? (i := 229) rfl), inT_1 _ (List.mem_of_getElem? (i := 1) rfl), by decide +kernel⟩
set_option maxRecDepth 100000 in
theorem imX9_leadToLieAbove : Cond.instanceMethod tX9_leadToLieAbove.1 ∈ lw_tbl := inT_2 _ (List.mem_of_getElem? (i := 228) rfl)
set_option maxRecDepth 100000 in
theorem selX9_leadToLieAbove : Cond.selects RX9 tX9_leadToLieAbove.1 tX9_leadToLieAbove.1 ∈ lw_tbl := inS _ (List.mem_of_getElem? (i := 12) rfl)
def tX9_tellAbove : Mt := (yX9_tellAbove, cX9_tellAbove, 5, (some .int))
set_option maxRecDepth 100000 in
theorem mfX9_tellAbove : MF tX9_tellAbove 4 := ⟨inT_2 _ (List.mem_of_getElem? (i := 218) rfl), inT_1 _ (List.mem_of_getElem? (i := 1) rfl), by decide +kernel⟩
set_option maxRecDepth 100000 in
theorem imX9_tellAbove : Cond.instanceMethod tX9_tellAbove.1 ∈ lw_tbl := inT_2 _ (List.mem_of_getElem? (i := 217) rfl)
set_option maxRecDepth 100000 in
theorem selX9_tellAbove : Cond.selects RX9 tX9_tellAbove.1 tX9_tellAbove.1 ∈ lw_tbl := inS _ (List.mem_of_getElem? (i := 10) rfl)
def tX9_tellBegan : Mt := (yX9_tellBegan, cX9_tellBegan, 5, (some .int))
set_option maxRecDepth 100000 in
theorem mfX9_tellBegan : MF tX9_tellBegan 4 := ⟨inT_3 _ (List.mem_of_getElem? (i := 10) rfl), inT_1 _ (List.mem_of_getElem? (i := 1) rfl), by decide +kernel⟩
set_option maxRecDepth 100000 in
theorem imX9_tellBegan : Cond.instanceMethod tX9_tellBegan.1 ∈ lw_tbl := inT_3 _ (List.mem_of_getElem? (i := 9) rfl)
set_option maxRecDepth 100000 in
theorem selX9_tellBegan : Cond.selects RX9 tX9_tellBegan.1 tX9_tellBegan.1 ∈ lw_tbl := inS _ (List.mem_of_getElem? (i := 15) rfl)
def tX9_tellBehind : Mt := (yX9_tellBehind, cX9_tellBehind, 5, (some .int))
set_option maxRecDepth 100000 in
theorem mfX9_tellBehind : MF tX9_tellBehind 4 := ⟨inT_3 _ (List.mem_of_getElem? (i := 14) rfl), inT_1 _ (List.mem_of_getElem? (i := 1) rfl), by decide +kernel⟩
set_option maxRecDepth 100000 in
theorem imX9_tellBehind : Cond.instanceMethod tX9_tellBehind.1 ∈ lw_tbl := inT_3 _ (List.mem_of_getElem? (i := 13) rfl)
set_option maxRecDepth 100000 in
theorem selX9_tellBehind : Cond.selects RX9 tX9_tellBehind.1 tX9_tellBehind.1 ∈ lw_tbl := inS _ (List.mem_of_getElem? (i := 16) rfl)
def tX9_isTick : Mt := (yX9_isTick, cX9_isTick, 1, (some .boolean))
set_option maxRecDepth 100000 in
theorem mfX9_isTick : MF tX9_isTick 1 := ⟨inT_3 _ (List.mem_of_getElem? (i := 5) rfl), inT_1 _ (List.mem_of_getElem? (i := 1) rfl), by decide +kernel⟩
set_option maxRecDepth 100000 in
theorem smX9_isTick : Cond.static tX9_isTick.1 ∈ lw_tbl := inT_3 _ (List.mem_of_getElem? (i := 4) rfl)
def tX9_tellPrint : Mt := (yX9_tellPrint, cX9_tellPrint, 8, (some .int))
set_option maxRecDepth 100000 in
theorem mfX9_tellPrint : MF tX9_tellPrint 5 := ⟨inT_3 _ (List.mem_of_getElem? (i := 2) rfl), inT_1 _ (List.mem_of_getElem? (i := 1) rfl), by decide +kernel⟩
set_option maxRecDepth 100000 in
theorem imX9_tellPrint : Cond.instanceMethod tX9_tellPrint.1 ∈ lw_tbl := inT_3 _ (List.mem_of_getElem? (i := 1) rfl)
set_option maxRecDepth 100000 in
theorem selX9_tellPrint : Cond.selects RX9 tX9_tellPrint.1 tX9_tellPrint.1 ∈ lw_tbl := inS _ (List.mem_of_getElem? (i := 14) rfl)
def tX9_fact : Mt := (yX9_fact, cX9_fact, 7, (some .int))
set_option maxRecDepth 100000 in
theorem mfX9_fact : MF tX9_fact 6 := ⟨inT_2 _ (List.mem_of_getElem? (i := 211) rfl), inT_1 _ (List.mem_of_getElem? (i := 1) rfl), by decide +kernel⟩
set_option maxRecDepth 100000 in
theorem imX9_fact : Cond.instanceMethod tX9_fact.1 ∈ lw_tbl := inT_2 _ (List.mem_of_getElem? (i := 209) rfl)
set_option maxRecDepth 100000 in
theorem selX9_fact : Cond.selects RX9 tX9_fact.1 tX9_fact.1 ∈ lw_tbl := inT_2 _ (List.mem_of_getElem? (i := 210) rfl)
def tX9_fault : Mt := (yX9_fault, cX9_fault, 1, (some .int))
set_option maxRecDepth 100000 in
theorem mfX9_fault : MF tX9_fault 0 := ⟨inT_2 _ (List.mem_of_getElem? (i := 69) rfl), inT_1 _ (List.mem_of_getElem? (i := 1) rfl), by decide +kernel⟩
set_option maxRecDepth 100000 in
theorem imX9_fault : Cond.instanceMethod tX9_fault.1 ∈ lw_tbl := inT_2 _ (List.mem_of_getElem? (i := 67) rfl)
set_option maxRecDepth 100000 in
theorem selX9_fault : Cond.selects RX9 tX9_fault.1 tX9_fault.1 ∈ lw_tbl := inT_2 _ (List.mem_of_getElem? (i := 68) rfl)
def tX9_feed : Mt := (yX9_feed, cX9_feed, 8, (some .int))
set_option maxRecDepth 100000 in
theorem mfX9_feed : MF tX9_feed 5 := ⟨inT_2 _ (List.mem_of_getElem? (i := 53) rfl), inT_1 _ (List.mem_of_getElem? (i := 1) rfl), by decide +kernel⟩
set_option maxRecDepth 100000 in
theorem imX9_feed : Cond.instanceMethod tX9_feed.1 ∈ lw_tbl := inT_2 _ (List.mem_of_getElem? (i := 51) rfl)
set_option maxRecDepth 100000 in
theorem selX9_feed : Cond.selects RX9 tX9_feed.1 tX9_feed.1 ∈ lw_tbl := inT_2 _ (List.mem_of_getElem? (i := 52) rfl)
def tX9_gap : Mt := (yX9_gap, cX9_gap, 6, (some .int))
set_option maxRecDepth 100000 in
theorem mfX9_gap : MF tX9_gap 4 := ⟨inT_3 _ (List.mem_of_getElem? (i := 137) rfl), inT_1 _ (List.mem_of_getElem? (i := 1) rfl), by decide +kernel⟩
set_option maxRecDepth 100000 in
theorem imX9_gap : Cond.instanceMethod tX9_gap.1 ∈ lw_tbl := inT_3 _ (List.mem_of_getElem? (i := 135) rfl)
set_option maxRecDepth 100000 in
theorem selX9_gap : Cond.selects RX9 tX9_gap.1 tX9_gap.1 ∈ lw_tbl := inT_3 _ (List.mem_of_getElem? (i := 136) rfl)
def tX9_init : Mt := (yX9_init, cX9_init, 5, none)
set_option maxRecDepth 100000 in
theorem mfX9_init : MF tX9_init 3 := ⟨inT_1 _ (List.mem_of_getElem? (i := 24) rfl), inT_1 _ (List.mem_of_getElem? (i := 1) rfl), by decide +kernel⟩
set_option maxRecDepth 100000 in
theorem imX9_init : Cond.instanceMethod tX9_init.1 ∈ lw_tbl := inT_1 _ (List.mem_of_getElem? (i := 23) rfl)
def tX9_isBlamedBefore : Mt := (yX9_isBlamedBefore, cX9_isBlamedBefore, 5, (some .boolean))
set_option maxRecDepth 100000 in
theorem mfX9_isBlamedBefore : MF tX9_isBlamedBefore 2 := ⟨inT_3 _ (List.mem_of_getElem? (i := 116) rfl), inT_1 _ (List.mem_of_getElem? (i := 1) rfl), by decide +kernel⟩
set_option maxRecDepth 100000 in
theorem smX9_isBlamedBefore : Cond.static tX9_isBlamedBefore.1 ∈ lw_tbl := inT_3 _ (List.mem_of_getElem? (i := 115) rfl)
def tX9_startAt : Mt := (yX9_startAt, cX9_startAt, 3, (some .int))
set_option maxRecDepth 100000 in
theorem mfX9_startAt : MF tX9_startAt 1 := ⟨inT_4 _ (List.mem_of_getElem? (i := 11) rfl), inT_1 _ (List.mem_of_getElem? (i := 1) rfl), by decide +kernel⟩
set_option maxRecDepth 100000 in
theorem imX9_startAt : Cond.instanceMethod tX9_startAt.1 ∈ lw_tbl := inT_4 _ (List.mem_of_getElem? (i := 10) rfl)
set_option maxRecDepth 100000 in
theorem selX9_startAt : Cond.selects RX9 tX9_startAt.1 tX9_startAt.1 ∈ lw_tbl := inS _ (List.mem_of_getElem? (i := 30) rfl)
def tX9_judge : Mt := (yX9_judge, cX9_judge, 4, (some .int))
set_option maxRecDepth 100000 in
theorem mfX9_judge : MF tX9_judge 1 := ⟨inT_4 _ (List.mem_of_getElem? (i := 7) rfl), inT_1 _ (List.mem_of_getElem? (i := 1) rfl), by decide +kernel⟩
set_option maxRecDepth 100000 in
theorem imX9_judge : Cond.instanceMethod tX9_judge.1 ∈ lw_tbl := inT_4 _ (List.mem_of_getElem? (i := 5) rfl)
set_option maxRecDepth 100000 in
theorem selX9_judge : Cond.selects RX9 tX9_judge.1 tX9_judge.1 ∈ lw_tbl := inT_4 _ (List.mem_of_getElem? (i := 6) rfl)
def tX9_latest : Mt := (yX9_latest, cX9_latest, 5, (some .int))
set_option maxRecDepth 100000 in
theorem mfX9_latest : MF tX9_latest 3 := ⟨inT_2 _ (List.mem_of_getElem? (i := 195) rfl), inT_1 _ (List.mem_of_getElem? (i := 1) rfl), by decide +kernel⟩
set_option maxRecDepth 100000 in
theorem imX9_latest : Cond.instanceMethod tX9_latest.1 ∈ lw_tbl := inT_2 _ (List.mem_of_getElem? (i := 193) rfl)
set_option maxRecDepth 100000 in
theorem selX9_latest : Cond.selects RX9 tX9_latest.1 tX9_latest.1 ∈ lw_tbl := inT_2 _ (List.mem_of_getElem? (i := 194) rfl)
def tX9_latestSnow : Mt := (yX9_latestSnow, cX9_latestSnow, 4, (some .int))
set_option maxRecDepth 100000 in
theorem mfX9_latestSnow : MF tX9_latestSnow 1 := ⟨inT_4 _ (List.mem_of_getElem? (i := 40) rfl), inT_1 _ (List.mem_of_getElem? (i := 1) rfl), by decide +kernel⟩
set_option maxRecDepth 100000 in
theorem imX9_latestSnow : Cond.instanceMethod tX9_latestSnow.1 ∈ lw_tbl := inT_4 _ (List.mem_of_getElem? (i := 39) rfl)
set_option maxRecDepth 100000 in
theorem selX9_latestSnow : Cond.selects RX9 tX9_latestSnow.1 tX9_latestSnow.1 ∈ lw_tbl := inS _ (List.mem_of_getElem? (i := 32) rfl)
def tX9_speakersOf : Mt := (yX9_speakersOf, cX9_speakersOf, 4, (some .int))
set_option maxRecDepth 100000 in
theorem mfX9_speakersOf : MF tX9_speakersOf 1 := ⟨inT_3 _ (List.mem_of_getElem? (i := 113) rfl), inT_1 _ (List.mem_of_getElem? (i := 1) rfl), by decide +kernel⟩
set_option maxRecDepth 100000 in
theorem imX9_speakersOf : Cond.instanceMethod tX9_speakersOf.1 ∈ lw_tbl := inT_3 _ (List.mem_of_getElem? (i := 112) rfl)
set_option maxRecDepth 100000 in
theorem selX9_speakersOf : Cond.selects RX9 tX9_speakersOf.1 tX9_speakersOf.1 ∈ lw_tbl := inS _ (List.mem_of_getElem? (i := 23) rfl)
def tX9_withoutWords : Mt := (yX9_withoutWords, cX9_withoutWords, 5, (some .int))
set_option maxRecDepth 100000 in
theorem mfX9_withoutWords : MF tX9_withoutWords 2 := ⟨inT_3 _ (List.mem_of_getElem? (i := 109) rfl), inT_1 _ (List.mem_of_getElem? (i := 1) rfl), by decide +kernel⟩
set_option maxRecDepth 100000 in
theorem imX9_withoutWords : Cond.instanceMethod tX9_withoutWords.1 ∈ lw_tbl := inT_3 _ (List.mem_of_getElem? (i := 108) rfl)
set_option maxRecDepth 100000 in
theorem selX9_withoutWords : Cond.selects RX9 tX9_withoutWords.1 tX9_withoutWords.1 ∈ lw_tbl := inS _ (List.mem_of_getElem? (i := 22) rfl)
def tX9_liars : Mt := (yX9_liars, cX9_liars, 6, (some .int))
set_option maxRecDepth 100000 in
theorem mfX9_liars : MF tX9_liars 1 := ⟨inT_3 _ (List.mem_of_getElem? (i := 105) rfl), inT_1 _ (List.mem_of_getElem? (i := 1) rfl), by decide +kernel⟩
set_option maxRecDepth 100000 in
theorem imX9_liars : Cond.instanceMethod tX9_liars.1 ∈ lw_tbl := inT_3 _ (List.mem_of_getElem? (i := 103) rfl)
set_option maxRecDepth 100000 in
theorem selX9_liars : Cond.selects RX9 tX9_liars.1 tX9_liars.1 ∈ lw_tbl := inT_3 _ (List.mem_of_getElem? (i := 104) rfl)
def tX9_lookAtCrossing : Mt := (yX9_lookAtCrossing, cX9_lookAtCrossing, 7, none)
set_option maxRecDepth 100000 in
theorem mfX9_lookAtCrossing : MF tX9_lookAtCrossing 3 := ⟨inT_3 _ (List.mem_of_getElem? (i := 186) rfl), inT_1 _ (List.mem_of_getElem? (i := 1) rfl), by decide +kernel⟩
set_option maxRecDepth 100000 in
theorem imX9_lookAtCrossing : Cond.instanceMethod tX9_lookAtCrossing.1 ∈ lw_tbl := inT_3 _ (List.mem_of_getElem? (i := 185) rfl)
set_option maxRecDepth 100000 in
theorem selX9_lookAtCrossing : Cond.selects RX9 tX9_lookAtCrossing.1 tX9_lookAtCrossing.1 ∈ lw_tbl := inS _ (List.mem_of_getElem? (i := 27) rfl)
def tX9_lookAtPair : Mt := (yX9_lookAtPair, cX9_lookAtPair, 5, none)
set_option maxRecDepth 100000 in
theorem mfX9_lookAtPair : MF tX9_lookAtPair 2 := ⟨inT_3 _ (List.mem_of_getElem? (i := 182) rfl), inT_1 _ (List.mem_of_getElem? (i := 1) rfl), by decide +kernel⟩
set_option maxRecDepth 100000 in
theorem imX9_lookAtPair : Cond.instanceMethod tX9_lookAtPair.1 ∈ lw_tbl := inT_3 _ (List.mem_of_getElem? (i := 181) rfl)
set_option maxRecDepth 100000 in
theorem selX9_lookAtPair : Cond.selects RX9 tX9_lookAtPair.1 tX9_lookAtPair.1 ∈ lw_tbl := inS _ (List.mem_of_getElem? (i := 26) rfl)
def tX9_look : Mt := (yX9_look, cX9_look, 5, (some .int))
set_option maxRecDepth 100000 in
theorem mfX9_look : MF tX9_look 2 := ⟨inT_3 _ (List.mem_of_getElem? (i := 174) rfl), inT_1 _ (List.mem_of_getElem? (i := 1) rfl), by decide +kernel⟩
set_option maxRecDepth 100000 in
theorem imX9_look : Cond.instanceMethod tX9_look.1 ∈ lw_tbl := inT_3 _ (List.mem_of_getElem? (i := 172) rfl)
set_option maxRecDepth 100000 in
theorem selX9_look : Cond.selects RX9 tX9_look.1 tX9_look.1 ∈ lw_tbl := inT_3 _ (List.mem_of_getElem? (i := 173) rfl)
def tX9_meets : Mt := (yX9_meets, cX9_meets, 13, (some .int))
set_option maxRecDepth 100000 in
theorem mfX9_meets : MF tX9_meets 3 := ⟨inT_3 _ (List.mem_of_getElem? (i := 203) rfl), inT_1 _ (List.mem_of_getElem? (i := 1) rfl), by decide +kernel⟩
set_option maxRecDepth 100000 in
theorem imX9_meets : Cond.instanceMethod tX9_meets.1 ∈ lw_tbl := inT_3 _ (List.mem_of_getElem? (i := 201) rfl)
set_option maxRecDepth 100000 in
theorem selX9_meets : Cond.selects RX9 tX9_meets.1 tX9_meets.1 ∈ lw_tbl := inT_3 _ (List.mem_of_getElem? (i := 202) rfl)
def tX9_one : Mt := (yX9_one, cX9_one, 8, (some .int))
set_option maxRecDepth 100000 in
theorem mfX9_one : MF tX9_one 3 := ⟨inT_3 _ (List.mem_of_getElem? (i := 207) rfl), inT_1 _ (List.mem_of_getElem? (i := 1) rfl), by decide +kernel⟩
set_option maxRecDepth 100000 in
theorem imX9_one : Cond.instanceMethod tX9_one.1 ∈ lw_tbl := inT_3 _ (List.mem_of_getElem? (i := 205) rfl)
set_option maxRecDepth 100000 in
theorem selX9_one : Cond.selects RX9 tX9_one.1 tX9_one.1 ∈ lw_tbl := inT_3 _ (List.mem_of_getElem? (i := 206) rfl)
def tX9_orders : Mt := (yX9_orders, cX9_orders, 3, (some .int))
set_option maxRecDepth 100000 in
theorem mfX9_orders : MF tX9_orders 2 := ⟨inT_4 _ (List.mem_of_getElem? (i := 57) rfl), inT_1 _ (List.mem_of_getElem? (i := 1) rfl), by decide +kernel⟩
set_option maxRecDepth 100000 in
theorem imX9_orders : Cond.instanceMethod tX9_orders.1 ∈ lw_tbl := inT_4 _ (List.mem_of_getElem? (i := 55) rfl)
set_option maxRecDepth 100000 in
theorem selX9_orders : Cond.selects RX9 tX9_orders.1 tX9_orders.1 ∈ lw_tbl := inT_4 _ (List.mem_of_getElem? (i := 56) rfl)
def tX9_prints : Mt := (yX9_prints, cX9_prints, 6, (some .int))
set_option maxRecDepth 100000 in
theorem mfX9_prints : MF tX9_prints 2 := ⟨inT_2 _ (List.mem_of_getElem? (i := 203) rfl), inT_1 _ (List.mem_of_getElem? (i := 1) rfl), by decide +kernel⟩
set_option maxRecDepth 100000 in
theorem imX9_prints : Cond.instanceMethod tX9_prints.1 ∈ lw_tbl := inT_2 _ (List.mem_of_getElem? (i := 201) rfl)
set_option maxRecDepth 100000 in
theorem selX9_prints : Cond.selects RX9 tX9_prints.1 tX9_prints.1 ∈ lw_tbl := inT_2 _ (List.mem_of_getElem? (i := 202) rfl)
def tX9_photo : Mt := (yX9_photo, cX9_photo, 8, (some .int))
set_option maxRecDepth 100000 in
theorem mfX9_photo : MF tX9_photo 4 := ⟨inT_4 _ (List.mem_of_getElem? (i := 79) rfl), inT_1 _ (List.mem_of_getElem? (i := 1) rfl), by decide +kernel⟩
set_option maxRecDepth 100000 in
theorem imX9_photo : Cond.instanceMethod tX9_photo.1 ∈ lw_tbl := inT_4 _ (List.mem_of_getElem? (i := 77) rfl)
set_option maxRecDepth 100000 in
theorem selX9_photo : Cond.selects RX9 tX9_photo.1 tX9_photo.1 ∈ lw_tbl := inT_4 _ (List.mem_of_getElem? (i := 78) rfl)
def tX9_settle : Mt := (yX9_settle, cX9_settle, 4, (some .boolean))
set_option maxRecDepth 100000 in
theorem mfX9_settle : MF tX9_settle 1 := ⟨inT_4 _ (List.mem_of_getElem? (i := 23) rfl), inT_1 _ (List.mem_of_getElem? (i := 1) rfl), by decide +kernel⟩
set_option maxRecDepth 100000 in
theorem imX9_settle : Cond.instanceMethod tX9_settle.1 ∈ lw_tbl := inT_4 _ (List.mem_of_getElem? (i := 21) rfl)
set_option maxRecDepth 100000 in
theorem selX9_settle : Cond.selects RX9 tX9_settle.1 tX9_settle.1 ∈ lw_tbl := inT_4 _ (List.mem_of_getElem? (i := 22) rfl)
def tX9_showWalk : Mt := (yX9_showWalk, cX9_showWalk, 9, none)
set_option maxRecDepth 100000 in
theorem mfX9_showWalk : MF tX9_showWalk 4 := ⟨inT_4 _ (List.mem_of_getElem? (i := 44) rfl), inT_1 _ (List.mem_of_getElem? (i := 1) rfl), by decide +kernel⟩
set_option maxRecDepth 100000 in
theorem imX9_showWalk : Cond.instanceMethod tX9_showWalk.1 ∈ lw_tbl := inT_4 _ (List.mem_of_getElem? (i := 43) rfl)
set_option maxRecDepth 100000 in
theorem selX9_showWalk : Cond.selects RX9 tX9_showWalk.1 tX9_showWalk.1 ∈ lw_tbl := inS _ (List.mem_of_getElem? (i := 33) rfl)
def tX9_showAll : Mt := (yX9_showAll, cX9_showAll, 5, none)
set_option maxRecDepth 100000 in
theorem mfX9_showAll : MF tX9_showAll 1 := ⟨inT_4 _ (List.mem_of_getElem? (i := 35) rfl), inT_1 _ (List.mem_of_getElem? (i := 1) rfl), by decide +kernel⟩
set_option maxRecDepth 100000 in
theorem imX9_showAll : Cond.instanceMethod tX9_showAll.1 ∈ lw_tbl := inT_4 _ (List.mem_of_getElem? (i := 34) rfl)
set_option maxRecDepth 100000 in
theorem selX9_showAll : Cond.selects RX9 tX9_showAll.1 tX9_showAll.1 ∈ lw_tbl := inS _ (List.mem_of_getElem? (i := 31) rfl)
def tX9_shown : Mt := (yX9_shown, cX9_shown, 5, (some .int))
set_option maxRecDepth 100000 in
theorem mfX9_shown : MF tX9_shown 3 := ⟨inT_4 _ (List.mem_of_getElem? (i := 31) rfl), inT_1 _ (List.mem_of_getElem? (i := 1) rfl), by decide +kernel⟩
set_option maxRecDepth 100000 in
theorem imX9_shown : Cond.instanceMethod tX9_shown.1 ∈ lw_tbl := inT_4 _ (List.mem_of_getElem? (i := 29) rfl)
set_option maxRecDepth 100000 in
theorem selX9_shown : Cond.selects RX9 tX9_shown.1 tX9_shown.1 ∈ lw_tbl := inT_4 _ (List.mem_of_getElem? (i := 30) rfl)
def tX9_snow : Mt := (yX9_snow, cX9_snow, 2, (some .int))
set_option maxRecDepth 100000 in
theorem mfX9_snow : MF tX9_snow 1 := ⟨inT_4 _ (List.mem_of_getElem? (i := 27) rfl), inT_1 _ (List.mem_of_getElem? (i := 1) rfl), by decide +kernel⟩
set_option maxRecDepth 100000 in
theorem imX9_snow : Cond.instanceMethod tX9_snow.1 ∈ lw_tbl := inT_4 _ (List.mem_of_getElem? (i := 25) rfl)
set_option maxRecDepth 100000 in
theorem selX9_snow : Cond.selects RX9 tX9_snow.1 tX9_snow.1 ∈ lw_tbl := inT_4 _ (List.mem_of_getElem? (i := 26) rfl)
def tX9_span : Mt := (yX9_span, cX9_span, 2, (some .int))
set_option maxRecDepth 100000 in
theorem mfX9_span : MF tX9_span 1 := ⟨inT_3 _ (List.mem_of_getElem? (i := 166) rfl), inT_1 _ (List.mem_of_getElem? (i := 1) rfl), by decide +kernel⟩
set_option maxRecDepth 100000 in
theorem imX9_span : Cond.instanceMethod tX9_span.1 ∈ lw_tbl := inT_3 _ (List.mem_of_getElem? (i := 164) rfl)
set_option maxRecDepth 100000 in
theorem selX9_span : Cond.selects RX9 tX9_span.1 tX9_span.1 ∈ lw_tbl := inT_3 _ (List.mem_of_getElem? (i := 165) rfl)
def tX9_start : Mt := (yX9_start, cX9_start, 4, (some .boolean))
set_option maxRecDepth 100000 in
theorem mfX9_start : MF tX9_start 2 := ⟨inT_4 _ (List.mem_of_getElem? (i := 3) rfl), inT_1 _ (List.mem_of_getElem? (i := 1) rfl), by decide +kernel⟩
set_option maxRecDepth 100000 in
theorem imX9_start : Cond.instanceMethod tX9_start.1 ∈ lw_tbl := inT_4 _ (List.mem_of_getElem? (i := 1) rfl)
set_option maxRecDepth 100000 in
theorem selX9_start : Cond.selects RX9 tX9_start.1 tX9_start.1 ∈ lw_tbl := inT_4 _ (List.mem_of_getElem? (i := 2) rfl)
def tX9_sure : Mt := (yX9_sure, cX9_sure, 7, (some .int))
set_option maxRecDepth 100000 in
theorem mfX9_sure : MF tX9_sure 5 := ⟨inT_3 _ (List.mem_of_getElem? (i := 154) rfl), inT_1 _ (List.mem_of_getElem? (i := 1) rfl), by decide +kernel⟩
set_option maxRecDepth 100000 in
theorem imX9_sure : Cond.instanceMethod tX9_sure.1 ∈ lw_tbl := inT_3 _ (List.mem_of_getElem? (i := 152) rfl)
set_option maxRecDepth 100000 in
theorem selX9_sure : Cond.selects RX9 tX9_sure.1 tX9_sure.1 ∈ lw_tbl := inT_3 _ (List.mem_of_getElem? (i := 153) rfl)
def tX9_top : Mt := (yX9_top, cX9_top, 8, (some .int))
set_option maxRecDepth 100000 in
theorem mfX9_top : MF tX9_top 2 := ⟨inT_4 _ (List.mem_of_getElem? (i := 15) rfl), inT_1 _ (List.mem_of_getElem? (i := 1) rfl), by decide +kernel⟩
set_option maxRecDepth 100000 in
theorem imX9_top : Cond.instanceMethod tX9_top.1 ∈ lw_tbl := inT_4 _ (List.mem_of_getElem? (i := 13) rfl)
set_option maxRecDepth 100000 in
theorem selX9_top : Cond.selects RX9 tX9_top.1 tX9_top.1 ∈ lw_tbl := inT_4 _ (List.mem_of_getElem? (i := 14) rfl)
def tX9_trail : Mt := (yX9_trail, cX9_trail, 5, (some .int))
set_option maxRecDepth 100000 in
theorem mfX9_trail : MF tX9_trail 2 := ⟨inT_4 _ (List.mem_of_getElem? (i := 53) rfl), inT_1 _ (List.mem_of_getElem? (i := 1) rfl), by decide +kernel⟩
set_option maxRecDepth 100000 in
theorem imX9_trail : Cond.instanceMethod tX9_trail.1 ∈ lw_tbl := inT_4 _ (List.mem_of_getElem? (i := 51) rfl)
set_option maxRecDepth 100000 in
theorem selX9_trail : Cond.selects RX9 tX9_trail.1 tX9_trail.1 ∈ lw_tbl := inT_4 _ (List.mem_of_getElem? (i := 52) rfl)
def tX9_undo : Mt := (yX9_undo, cX9_undo, 1, (some .int))
set_option maxRecDepth 100000 in
theorem mfX9_undo : MF tX9_undo 0 := ⟨inT_3 _ (List.mem_of_getElem? (i := 18) rfl), inT_1 _ (List.mem_of_getElem? (i := 1) rfl), by decide +kernel⟩
set_option maxRecDepth 100000 in
theorem imX9_undo : Cond.instanceMethod tX9_undo.1 ∈ lw_tbl := inT_3 _ (List.mem_of_getElem? (i := 16) rfl)
set_option maxRecDepth 100000 in
theorem selX9_undo : Cond.selects RX9 tX9_undo.1 tX9_undo.1 ∈ lw_tbl := inT_3 _ (List.mem_of_getElem? (i := 17) rfl)
def tX9_walk : Mt := (yX9_walk, cX9_walk, 5, (some .int))
set_option maxRecDepth 100000 in
theorem mfX9_walk : MF tX9_walk 2 := ⟨inT_2 _ (List.mem_of_getElem? (i := 103) rfl), inT_1 _ (List.mem_of_getElem? (i := 1) rfl), by decide +kernel⟩
set_option maxRecDepth 100000 in
theorem imX9_walk : Cond.instanceMethod tX9_walk.1 ∈ lw_tbl := inT_2 _ (List.mem_of_getElem? (i := 101) rfl)
set_option maxRecDepth 100000 in
theorem selX9_walk : Cond.selects RX9 tX9_walk.1 tX9_walk.1 ∈ lw_tbl := inT_2 _ (List.mem_of_getElem? (i := 102) rfl)
def tX9_walkers : Mt := (yX9_walkers, cX9_walkers, 2, (some .int))
set_option maxRecDepth 100000 in
theorem mfX9_walkers : MF tX9_walkers 1 := ⟨inT_3 _ (List.mem_of_getElem? (i := 215) rfl), inT_1 _ (List.mem_of_getElem? (i := 1) rfl), by decide +kernel⟩
set_option maxRecDepth 100000 in
theorem imX9_walkers : Cond.instanceMethod tX9_walkers.1 ∈ lw_tbl := inT_3 _ (List.mem_of_getElem? (i := 213) rfl)
set_option maxRecDepth 100000 in
theorem selX9_walkers : Cond.selects RX9 tX9_walkers.1 tX9_walkers.1 ∈ lw_tbl := inT_3 _ (List.mem_of_getElem? (i := 214) rfl)
def tX9_where : Mt := (yX9_where, cX9_where, 4, (some .int))
set_option maxRecDepth 100000 in
theorem mfX9_where : MF tX9_where 2 := ⟨inT_2 _ (List.mem_of_getElem? (i := 186) rfl), inT_1 _ (List.mem_of_getElem? (i := 1) rfl), by decide +kernel⟩
set_option maxRecDepth 100000 in
theorem imX9_where : Cond.instanceMethod tX9_where.1 ∈ lw_tbl := inT_2 _ (List.mem_of_getElem? (i := 184) rfl)
set_option maxRecDepth 100000 in
theorem selX9_where : Cond.selects RX9 tX9_where.1 tX9_where.1 ∈ lw_tbl := inT_2 _ (List.mem_of_getElem? (i := 185) rfl)
def tX9_words : Mt := (yX9_words, cX9_words, 4, (some .int))
set_option maxRecDepth 100000 in
theorem mfX9_words : MF tX9_words 1 := ⟨inT_3 _ (List.mem_of_getElem? (i := 22) rfl), inT_1 _ (List.mem_of_getElem? (i := 1) rfl), by decide +kernel⟩
set_option maxRecDepth 100000 in
theorem imX9_words : Cond.instanceMethod tX9_words.1 ∈ lw_tbl := inT_3 _ (List.mem_of_getElem? (i := 20) rfl)
set_option maxRecDepth 100000 in
theorem selX9_words : Cond.selects RX9 tX9_words.1 tX9_words.1 ∈ lw_tbl := inT_3 _ (List.mem_of_getElem? (i := 21) rfl)
set_option maxRecDepth 100000 in
theorem im_object : Cond.instanceMethod Lib.objectInit ∈ lw_tbl := inT_1 _ (List.mem_of_getElem? (i := 26) rfl)
set_option maxRecDepth 100000 in
theorem cd_object : Cond.code Lib.objectInit ⟨#[0xb1]⟩ 1 none ∈ lw_tbl := inT_1 _ (List.mem_of_getElem? (i := 27) rfl)
set_option maxRecDepth 100000 in
theorem na_copy : Cond.native arraycopyName ∈ lw_tbl := inT_3 _ (List.mem_of_getElem? (i := 88) rfl)
set_option maxRecDepth 100000 in
theorem st_copy : Cond.static arraycopyName ∈ lw_tbl := inT_3 _ (List.mem_of_getElem? (i := 87) rfl)
set_option maxRecDepth 100000 in
theorem in_system : Cond.initialized "java/lang/System" ∈ lw_tbl := inT_1 _ (List.mem_of_getElem? (i := 19) rfl)
