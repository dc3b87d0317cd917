/-! THE TABLES' WORDS, by their places (written by program) -/
theorem uw_X0 : ∀ w ∈ u_ws RX0 TX0 5, w ∈ xT := by
  intro w hw
  obtain ⟨k, hk, rfl⟩ := List.mem_map.mp hw
  have hk := List.mem_range.mp hk
  match k, hk with
  | 0, _ => exact (show u_lay RX0 TX0 0 ∈ xT from List.mem_filter.mpr ⟨List.mem_append_right _ (List.mem_of_getElem? (i := 237) (by decide +kernel)), by decide +kernel⟩)
  | 1, _ => exact (show u_lay RX0 TX0 1 ∈ xT from List.mem_filter.mpr ⟨List.mem_append_right _ (List.mem_of_getElem? (i := 239) (by decide +kernel)), by decide +kernel⟩)
  | 2, _ => exact (show u_lay RX0 TX0 2 ∈ xT from List.mem_filter.mpr ⟨List.mem_append_right _ (List.mem_of_getElem? (i := 241) (by decide +kernel)), by decide +kernel⟩)
  | 3, _ => exact (show u_lay RX0 TX0 3 ∈ xT from List.mem_filter.mpr ⟨List.mem_append_right _ (List.mem_of_getElem? (i := 243) (by decide +kernel)), by decide +kernel⟩)
  | 4, _ => exact (show u_lay RX0 TX0 4 ∈ xT from List.mem_filter.mpr ⟨List.mem_append_right _ (List.mem_of_getElem? (i := 245) (by decide +kernel)), by decide +kernel⟩)
  | q + 5, hq => omega
theorem ft_X0 : xFt RX0 TX0 5 tyX0 := ⟨tyX0_ok, nmX0⟩
theorem uw_X1 : ∀ w ∈ u_ws RX1 TX1 5, w ∈ xT := by
  intro w hw
  obtain ⟨k, hk, rfl⟩ := List.mem_map.mp hw
  have hk := List.mem_range.mp hk
  match k, hk with
  | 0, _ => exact (show u_lay RX1 TX1 0 ∈ xT from List.mem_filter.mpr ⟨List.mem_append_right _ (List.mem_of_getElem? (i := 130) (by decide +kernel)), by decide +kernel⟩)
  | 1, _ => exact (show u_lay RX1 TX1 1 ∈ xT from List.mem_filter.mpr ⟨List.mem_append_right _ (List.mem_of_getElem? (i := 132) (by decide +kernel)), by decide +kernel⟩)
  | 2, _ => exact (show u_lay RX1 TX1 2 ∈ xT from List.mem_filter.mpr ⟨List.mem_append_right _ (List.mem_of_getElem? (i := 134) (by decide +kernel)), by decide +kernel⟩)
  | 3, _ => exact (show u_lay RX1 TX1 3 ∈ xT from List.mem_filter.mpr ⟨List.mem_append_right _ (List.mem_of_getElem? (i := 136) (by decide +kernel)), by decide +kernel⟩)
  | 4, _ => exact (show u_lay RX1 TX1 4 ∈ xT from List.mem_filter.mpr ⟨List.mem_append_right _ (List.mem_of_getElem? (i := 138) (by decide +kernel)), by decide +kernel⟩)
  | q + 5, hq => omega
theorem ft_X1 : xFt RX1 TX1 5 tyX1 := ⟨tyX1_ok, nmX1⟩
theorem uw_X2 : ∀ w ∈ u_ws RX2 TX2 4, w ∈ xT := by
  intro w hw
  obtain ⟨k, hk, rfl⟩ := List.mem_map.mp hw
  have hk := List.mem_range.mp hk
  match k, hk with
  | 0, _ => exact (show u_lay RX2 TX2 0 ∈ xT from List.mem_filter.mpr ⟨List.mem_append_right _ (List.mem_of_getElem? (i := 100) (by decide +kernel)), by decide +kernel⟩)
  | 1, _ => exact (show u_lay RX2 TX2 1 ∈ xT from List.mem_filter.mpr ⟨List.mem_append_right _ (List.mem_of_getElem? (i := 102) (by decide +kernel)), by decide +kernel⟩)
  | 2, _ => exact (show u_lay RX2 TX2 2 ∈ xT from List.mem_filter.mpr ⟨List.mem_append_right _ (List.mem_of_getElem? (i := 104) (by decide +kernel)), by decide +kernel⟩)
  | 3, _ => exact (show u_lay RX2 TX2 3 ∈ xT from List.mem_filter.mpr ⟨List.mem_append_right _ (List.mem_of_getElem? (i := 106) (by decide +kernel)), by decide +kernel⟩)
  | q + 4, hq => omega
theorem ft_X2 : xFt RX2 TX2 4 tyX2 := ⟨tyX2_ok, nmX2⟩
theorem uw_X3 : ∀ w ∈ u_ws RX3 TX3 3, w ∈ xT := by
  intro w hw
  obtain ⟨k, hk, rfl⟩ := List.mem_map.mp hw
  have hk := List.mem_range.mp hk
  match k, hk with
  | 0, _ => exact (show u_lay RX3 TX3 0 ∈ xT from List.mem_filter.mpr ⟨List.mem_append_right _ (List.mem_of_getElem? (i := 402) (by decide +kernel)), by decide +kernel⟩)
  | 1, _ => exact (show u_lay RX3 TX3 1 ∈ xT from List.mem_filter.mpr ⟨List.mem_append_right _ (List.mem_of_getElem? (i := 404) (by decide +kernel)), by decide +kernel⟩)
  | 2, _ => exact (show u_lay RX3 TX3 2 ∈ xT from List.mem_filter.mpr ⟨List.mem_append_right _ (List.mem_of_getElem? (i := 406) (by decide +kernel)), by decide +kernel⟩)
  | q + 3, hq => omega
theorem ft_X3 : xFt RX3 TX3 3 tyX3 := ⟨tyX3_ok, nmX3⟩
theorem uw_X4 : ∀ w ∈ u_ws RX4 TX4 5, w ∈ xT := by
  intro w hw
  obtain ⟨k, hk, rfl⟩ := List.mem_map.mp hw
  have hk := List.mem_range.mp hk
  match k, hk with
  | 0, _ => exact (show u_lay RX4 TX4 0 ∈ xT from List.mem_filter.mpr ⟨List.mem_append_right _ (List.mem_of_getElem? (i := 156) (by decide +kernel)), by decide +kernel⟩)
  | 1, _ => exact (show u_lay RX4 TX4 1 ∈ xT from List.mem_filter.mpr ⟨List.mem_append_right _ (List.mem_of_getElem? (i := 158) (by decide +kernel)), by decide +kernel⟩)
  | 2, _ => exact (show u_lay RX4 TX4 2 ∈ xT from List.mem_filter.mpr ⟨List.mem_append_right _ (List.mem_of_getElem? (i := 160) (by decide +kernel)), by decide +kernel⟩)
  | 3, _ => exact (show u_lay RX4 TX4 3 ∈ xT from List.mem_filter.mpr ⟨List.mem_append_right _ (List.mem_of_getElem? (i := 162) (by decide +kernel)), by decide +kernel⟩)
  | 4, _ => exact (show u_lay RX4 TX4 4 ∈ xT from List.mem_filter.mpr ⟨List.mem_append_right _ (List.mem_of_getElem? (i := 164) (by decide +kernel)), by decide +kernel⟩)
  | q + 5, hq => omega
theorem ft_X4 : xFt RX4 TX4 5 tyX4 := ⟨tyX4_ok, nmX4⟩
theorem uw_X5 : ∀ w ∈ u_ws RX5 TX5 9, w ∈ xT := by
  intro w hw
  obtain ⟨k, hk, rfl⟩ := List.mem_map.mp hw
  have hk := List.mem_range.mp hk
  match k, hk with
  | 0, _ => exact (show u_lay RX5 TX5 0 ∈ xT from List.mem_filter.mpr ⟨List.mem_append_right _ (List.mem_of_getElem? (i := 199) (by decide +kernel)), by decide +kernel⟩)
  | 1, _ => exact (show u_lay RX5 TX5 1 ∈ xT from List.mem_filter.mpr ⟨List.mem_append_right _ (List.mem_of_getElem? (i := 201) (by decide +kernel)), by decide +kernel⟩)
  | 2, _ => exact (show u_lay RX5 TX5 2 ∈ xT from List.mem_filter.mpr ⟨List.mem_append_right _ (List.mem_of_getElem? (i := 203) (by decide +kernel)), by decide +kernel⟩)
  | 3, _ => exact (show u_lay RX5 TX5 3 ∈ xT from List.mem_filter.mpr ⟨List.mem_append_right _ (List.mem_of_getElem? (i := 205) (by decide +kernel)), by decide +kernel⟩)
  | 4, _ => exact (show u_lay RX5 TX5 4 ∈ xT from List.mem_filter.mpr ⟨List.mem_append_right _ (List.mem_of_getElem? (i := 207) (by decide +kernel)), by decide +kernel⟩)
  | 5, _ => exact (show u_lay RX5 TX5 5 ∈ xT from List.mem_filter.mpr ⟨List.mem_append_right _ (List.mem_of_getElem? (i := 209) (by decide +kernel)), by decide +kernel⟩)
  | 6, _ => exact (show u_lay RX5 TX5 6 ∈ xT from List.mem_filter.mpr ⟨List.mem_append_right _ (List.mem_of_getElem? (i := 211) (by decide +kernel)), by decide +kernel⟩)
  | 7, _ => exact (show u_lay RX5 TX5 7 ∈ xT from List.mem_filter.mpr ⟨List.mem_append_right _ (List.mem_of_getElem? (i := 213) (by decide +kernel)), by decide +kernel⟩)
  | 8, _ => exact (show u_lay RX5 TX5 8 ∈ xT from List.mem_filter.mpr ⟨List.mem_append_right _ (List.mem_of_getElem? (i := 215) (by decide +kernel)), by decide +kernel⟩)
  | q + 9, hq => omega
theorem ft_X5 : xFt RX5 TX5 9 tyX5 := ⟨tyX5_ok, nmX5⟩
theorem uw_X6 : ∀ w ∈ u_ws RX6 TX6 7, w ∈ xT := by
  intro w hw
  obtain ⟨k, hk, rfl⟩ := List.mem_map.mp hw
  have hk := List.mem_range.mp hk
  match k, hk with
  | 0, _ => exact (show u_lay RX6 TX6 0 ∈ xT from List.mem_filter.mpr ⟨List.mem_append_right _ (List.mem_of_getElem? (i := 261) (by decide +kernel)), by decide +kernel⟩)
  | 1, _ => exact (show u_lay RX6 TX6 1 ∈ xT from List.mem_filter.mpr ⟨List.mem_append_right _ (List.mem_of_getElem? (i := 263) (by decide +kernel)), by decide +kernel⟩)
  | 2, _ => exact (show u_lay RX6 TX6 2 ∈ xT from List.mem_filter.mpr ⟨List.mem_append_right _ (List.mem_of_getElem? (i := 265) (by decide +kernel)), by decide +kernel⟩)
  | 3, _ => exact (show u_lay RX6 TX6 3 ∈ xT from List.mem_filter.mpr ⟨List.mem_append_right _ (List.mem_of_getElem? (i := 267) (by decide +kernel)), by decide +kernel⟩)
  | 4, _ => exact (show u_lay RX6 TX6 4 ∈ xT from List.mem_filter.mpr ⟨List.mem_append_right _ (List.mem_of_getElem? (i := 269) (by decide +kernel)), by decide +kernel⟩)
  | 5, _ => exact (show u_lay RX6 TX6 5 ∈ xT from List.mem_filter.mpr ⟨List.mem_append_right _ (List.mem_of_getElem? (i := 271) (by decide +kernel)), by decide +kernel⟩)
  | 6, _ => exact (show u_lay RX6 TX6 6 ∈ xT from List.mem_filter.mpr ⟨List.mem_append_right _ (List.mem_of_getElem? (i := 273) (by decide +kernel)), by decide +kernel⟩)
  | q + 7, hq => omega
theorem ft_X6 : xFt RX6 TX6 7 tyX6 := ⟨tyX6_ok, nmX6⟩
theorem uw_X7 : ∀ w ∈ u_ws RX7 TX7 2, w ∈ xT := by
  intro w hw
  obtain ⟨k, hk, rfl⟩ := List.mem_map.mp hw
  have hk := List.mem_range.mp hk
  match k, hk with
  | 0, _ => exact (show u_lay RX7 TX7 0 ∈ xT from List.mem_filter.mpr ⟨List.mem_append_right _ (List.mem_of_getElem? (i := 284) (by decide +kernel)), by decide +kernel⟩)
  | 1, _ => exact (show u_lay RX7 TX7 1 ∈ xT from List.mem_filter.mpr ⟨List.mem_append_right _ (List.mem_of_getElem? (i := 286) (by decide +kernel)), by decide +kernel⟩)
  | q + 2, hq => omega
theorem ft_X7 : xFt RX7 TX7 2 tyX7 := ⟨tyX7_ok, nmX7⟩
theorem uw_X8 : ∀ w ∈ u_ws RX8 TX8 9, w ∈ xT := by
  intro w hw
  obtain ⟨k, hk, rfl⟩ := List.mem_map.mp hw
  have hk := List.mem_range.mp hk
  match k, hk with
  | 0, _ => exact (show u_lay RX8 TX8 0 ∈ xT from List.mem_filter.mpr ⟨List.mem_append_right _ (List.mem_of_getElem? (i := 369) (by decide +kernel)), by decide +kernel⟩)
  | 1, _ => exact (show u_lay RX8 TX8 1 ∈ xT from List.mem_filter.mpr ⟨List.mem_append_right _ (List.mem_of_getElem? (i := 371) (by decide +kernel)), by decide +kernel⟩)
  | 2, _ => exact (show u_lay RX8 TX8 2 ∈ xT from List.mem_filter.mpr ⟨List.mem_append_right _ (List.mem_of_getElem? (i := 373) (by decide +kernel)), by decide +kernel⟩)
  | 3, _ => exact (show u_lay RX8 TX8 3 ∈ xT from List.mem_filter.mpr ⟨List.mem_append_right _ (List.mem_of_getElem? (i := 375) (by decide +kernel)), by decide +kernel⟩)
  | 4, _ => exact (show u_lay RX8 TX8 4 ∈ xT from List.mem_filter.mpr ⟨List.mem_append_right _ (List.mem_of_getElem? (i := 377) (by decide +kernel)), by decide +kernel⟩)
  | 5, _ => exact (show u_lay RX8 TX8 5 ∈ xT from List.mem_filter.mpr ⟨List.mem_append_right _ (List.mem_of_getElem? (i := 379) (by decide +kernel)), by decide +kernel⟩)
  | 6, _ => exact (show u_lay RX8 TX8 6 ∈ xT from List.mem_filter.mpr ⟨List.mem_append_right _ (List.mem_of_getElem? (i := 381) (by decide +kernel)), by decide +kernel⟩)
  | 7, _ => exact (show u_lay RX8 TX8 7 ∈ xT from List.mem_filter.mpr ⟨List.mem_append_right _ (List.mem_of_getElem? (i := 383) (by decide +kernel)), by decide +kernel⟩)
  | 8, _ => exact (show u_lay RX8 TX8 8 ∈ xT from List.mem_filter.mpr ⟨List.mem_append_right _ (List.mem_of_getElem? (i := 385) (by decide +kernel)), by decide +kernel⟩)
  | q + 9, hq => omega
theorem ft_X8 : xFt RX8 TX8 9 tyX8 := ⟨tyX8_ok, nmX8⟩
theorem uw_X9 : ∀ w ∈ u_ws RX9 TX9 7, w ∈ xT := by
  intro w hw
  obtain ⟨k, hk, rfl⟩ := List.mem_map.mp hw
  have hk := List.mem_range.mp hk
  match k, hk with
  | 0, _ => exact (show u_lay RX9 TX9 0 ∈ xT from List.mem_filter.mpr ⟨List.mem_append_right _ (List.mem_of_getElem? (i := 59) (by decide +kernel)), by decide +kernel⟩)
  | 1, _ => exact (show u_lay RX9 TX9 1 ∈ xT from List.mem_filter.mpr ⟨List.mem_append_right _ (List.mem_of_getElem? (i := 61) (by decide +kernel)), by decide +kernel⟩)
  | 2, _ => exact (show u_lay RX9 TX9 2 ∈ xT from List.mem_filter.mpr ⟨List.mem_append_right _ (List.mem_of_getElem? (i := 63) (by decide +kernel)), by decide +kernel⟩)
  | 3, _ => exact (show u_lay RX9 TX9 3 ∈ xT from List.mem_filter.mpr ⟨List.mem_append_right _ (List.mem_of_getElem? (i := 65) (by decide +kernel)), by decide +kernel⟩)
  | 4, _ => exact (show u_lay RX9 TX9 4 ∈ xT from List.mem_filter.mpr ⟨List.mem_append_right _ (List.mem_of_getElem? (i := 67) (by decide +kernel)), by decide +kernel⟩)
  | 5, _ => exact (show u_lay RX9 TX9 5 ∈ xT from List.mem_filter.mpr ⟨List.mem_append_right _ (List.mem_of_getElem? (i := 69) (by decide +kernel)), by decide +kernel⟩)
  | 6, _ => exact (show u_lay RX9 TX9 6 ∈ xT from List.mem_filter.mpr ⟨List.mem_append_right _ (List.mem_of_getElem? (i := 71) (by decide +kernel)), by decide +kernel⟩)
  | q + 7, hq => omega
theorem ft_X9 : xFt RX9 TX9 7 tyX9 := ⟨tyX9_ok, nmX9⟩
theorem uw_X10 : ∀ w ∈ u_ws RX10 TX10 15, w ∈ xT := by
  intro w hw
  obtain ⟨k, hk, rfl⟩ := List.mem_map.mp hw
  have hk := List.mem_range.mp hk
  match k, hk with
  | 0, _ => exact (show u_lay RX10 TX10 0 ∈ xT from List.mem_filter.mpr ⟨List.mem_append_right _ (List.mem_of_getElem? (i := 325) (by decide +kernel)), by decide +kernel⟩)
  | 1, _ => exact (show u_lay RX10 TX10 1 ∈ xT from List.mem_filter.mpr ⟨List.mem_append_right _ (List.mem_of_getElem? (i := 327) (by decide +kernel)), by decide +kernel⟩)
  | 2, _ => exact (show u_lay RX10 TX10 2 ∈ xT from List.mem_filter.mpr ⟨List.mem_append_right _ (List.mem_of_getElem? (i := 329) (by decide +kernel)), by decide +kernel⟩)
  | 3, _ => exact (show u_lay RX10 TX10 3 ∈ xT from List.mem_filter.mpr ⟨List.mem_append_right _ (List.mem_of_getElem? (i := 331) (by decide +kernel)), by decide +kernel⟩)
  | 4, _ => exact (show u_lay RX10 TX10 4 ∈ xT from List.mem_filter.mpr ⟨List.mem_append_right _ (List.mem_of_getElem? (i := 333) (by decide +kernel)), by decide +kernel⟩)
  | 5, _ => exact (show u_lay RX10 TX10 5 ∈ xT from List.mem_filter.mpr ⟨List.mem_append_right _ (List.mem_of_getElem? (i := 335) (by decide +kernel)), by decide +kernel⟩)
  | 6, _ => exact (show u_lay RX10 TX10 6 ∈ xT from List.mem_filter.mpr ⟨List.mem_append_right _ (List.mem_of_getElem? (i := 337) (by decide +kernel)), by decide +kernel⟩)
  | 7, _ => exact (show u_lay RX10 TX10 7 ∈ xT from List.mem_filter.mpr ⟨List.mem_append_right _ (List.mem_of_getElem? (i := 339) (by decide +kernel)), by decide +kernel⟩)
  | 8, _ => exact (show u_lay RX10 TX10 8 ∈ xT from List.mem_filter.mpr ⟨List.mem_append_right _ (List.mem_of_getElem? (i := 341) (by decide +kernel)), by decide +kernel⟩)
  | 9, _ => exact (show u_lay RX10 TX10 9 ∈ xT from List.mem_filter.mpr ⟨List.mem_append_right _ (List.mem_of_getElem? (i := 343) (by decide +kernel)), by decide +kernel⟩)
  | 10, _ => exact (show u_lay RX10 TX10 10 ∈ xT from List.mem_filter.mpr ⟨List.mem_append_right _ (List.mem_of_getElem? (i := 345) (by decide +kernel)), by decide +kernel⟩)
  | 11, _ => exact (show u_lay RX10 TX10 11 ∈ xT from List.mem_filter.mpr ⟨List.mem_append_right _ (List.mem_of_getElem? (i := 347) (by decide +kernel)), by decide +kernel⟩)
  | 12, _ => exact (show u_lay RX10 TX10 12 ∈ xT from List.mem_filter.mpr ⟨List.mem_append_right _ (List.mem_of_getElem? (i := 349) (by decide +kernel)), by decide +kernel⟩)
  | 13, _ => exact (show u_lay RX10 TX10 13 ∈ xT from List.mem_filter.mpr ⟨List.mem_append_right _ (List.mem_of_getElem? (i := 351) (by decide +kernel)), by decide +kernel⟩)
  | 14, _ => exact (show u_lay RX10 TX10 14 ∈ xT from List.mem_filter.mpr ⟨List.mem_append_right _ (List.mem_of_getElem? (i := 353) (by decide +kernel)), by decide +kernel⟩)
  | q + 15, hq => omega
theorem ft_X10 : xFt RX10 TX10 15 tyX10 := ⟨tyX10_ok, nmX10⟩
theorem uw_X11 : ∀ w ∈ u_ws RX11 TX11 5, w ∈ xT := by
  intro w hw
  obtain ⟨k, hk, rfl⟩ := List.mem_map.mp hw
  have hk := List.mem_range.mp hk
  match k, hk with
  | 0, _ => exact (show u_lay RX11 TX11 0 ∈ xT from List.mem_filter.mpr ⟨List.mem_append_right _ (List.mem_of_getElem? (i := 414) (by decide +kernel)), by decide +kernel⟩)
  | 1, _ => exact (show u_lay RX11 TX11 1 ∈ xT from List.mem_filter.mpr ⟨List.mem_append_right _ (List.mem_of_getElem? (i := 416) (by decide +kernel)), by decide +kernel⟩)
  | 2, _ => exact (show u_lay RX11 TX11 2 ∈ xT from List.mem_filter.mpr ⟨List.mem_append_right _ (List.mem_of_getElem? (i := 418) (by decide +kernel)), by decide +kernel⟩)
  | 3, _ => exact (show u_lay RX11 TX11 3 ∈ xT from List.mem_filter.mpr ⟨List.mem_append_right _ (List.mem_of_getElem? (i := 420) (by decide +kernel)), by decide +kernel⟩)
  | 4, _ => exact (show u_lay RX11 TX11 4 ∈ xT from List.mem_filter.mpr ⟨List.mem_append_right _ (List.mem_of_getElem? (i := 422) (by decide +kernel)), by decide +kernel⟩)
  | q + 5, hq => omega
theorem ft_X11 : xFt RX11 TX11 5 tyX11 := ⟨tyX11_ok, nmX11⟩
theorem uw_X12 : ∀ w ∈ u_ws RX12 TX12 18, w ∈ xT := by
  intro w hw
  obtain ⟨k, hk, rfl⟩ := List.mem_map.mp hw
  have hk := List.mem_range.mp hk
  match k, hk with
  | 0, _ => exact (show u_lay RX12 TX12 0 ∈ xT from List.mem_filter.mpr ⟨List.mem_append_right _ (List.mem_of_getElem? (i := 1164) (by decide +kernel)), by decide +kernel⟩)
  | 1, _ => exact (show u_lay RX12 TX12 1 ∈ xT from List.mem_filter.mpr ⟨List.mem_append_right _ (List.mem_of_getElem? (i := 1166) (by decide +kernel)), by decide +kernel⟩)
  | 2, _ => exact (show u_lay RX12 TX12 2 ∈ xT from List.mem_filter.mpr ⟨List.mem_append_right _ (List.mem_of_getElem? (i := 1168) (by decide +kernel)), by decide +kernel⟩)
  | 3, _ => exact (show u_lay RX12 TX12 3 ∈ xT from List.mem_filter.mpr ⟨List.mem_append_right _ (List.mem_of_getElem? (i := 1170) (by decide +kernel)), by decide +kernel⟩)
  | 4, _ => exact (show u_lay RX12 TX12 4 ∈ xT from List.mem_filter.mpr ⟨List.mem_append_right _ (List.mem_of_getElem? (i := 1172) (by decide +kernel)), by decide +kernel⟩)
  | 5, _ => exact (show u_lay RX12 TX12 5 ∈ xT from List.mem_filter.mpr ⟨List.mem_append_right _ (List.mem_of_getElem? (i := 1174) (by decide +kernel)), by decide +kernel⟩)
  | 6, _ => exact (show u_lay RX12 TX12 6 ∈ xT from List.mem_filter.mpr ⟨List.mem_append_right _ (List.mem_of_getElem? (i := 1176) (by decide +kernel)), by decide +kernel⟩)
  | 7, _ => exact (show u_lay RX12 TX12 7 ∈ xT from List.mem_filter.mpr ⟨List.mem_append_right _ (List.mem_of_getElem? (i := 1178) (by decide +kernel)), by decide +kernel⟩)
  | 8, _ => exact (show u_lay RX12 TX12 8 ∈ xT from List.mem_filter.mpr ⟨List.mem_append_right _ (List.mem_of_getElem? (i := 1180) (by decide +kernel)), by decide +kernel⟩)
  | 9, _ => exact (show u_lay RX12 TX12 9 ∈ xT from List.mem_filter.mpr ⟨List.mem_append_right _ (List.mem_of_getElem? (i := 1182) (by decide +kernel)), by decide +kernel⟩)
  | 10, _ => exact (show u_lay RX12 TX12 10 ∈ xT from List.mem_filter.mpr ⟨List.mem_append_right _ (List.mem_of_getElem? (i := 1184) (by decide +kernel)), by decide +kernel⟩)
  | 11, _ => exact (show u_lay RX12 TX12 11 ∈ xT from List.mem_filter.mpr ⟨List.mem_append_right _ (List.mem_of_getElem? (i := 1186) (by decide +kernel)), by decide +kernel⟩)
  | 12, _ => exact (show u_lay RX12 TX12 12 ∈ xT from List.mem_filter.mpr ⟨List.mem_append_right _ (List.mem_of_getElem? (i := 1188) (by decide +kernel)), by decide +kernel⟩)
  | 13, _ => exact (show u_lay RX12 TX12 13 ∈ xT from List.mem_filter.mpr ⟨List.mem_append_right _ (List.mem_of_getElem? (i := 1190) (by decide +kernel)), by decide +kernel⟩)
  | 14, _ => exact (show u_lay RX12 TX12 14 ∈ xT from List.mem_filter.mpr ⟨List.mem_append_right _ (List.mem_of_getElem? (i := 1192) (by decide +kernel)), by decide +kernel⟩)
  | 15, _ => exact (show u_lay RX12 TX12 15 ∈ xT from List.mem_filter.mpr ⟨List.mem_append_right _ (List.mem_of_getElem? (i := 1194) (by decide +kernel)), by decide +kernel⟩)
  | 16, _ => exact (show u_lay RX12 TX12 16 ∈ xT from List.mem_filter.mpr ⟨List.mem_append_right _ (List.mem_of_getElem? (i := 1196) (by decide +kernel)), by decide +kernel⟩)
  | 17, _ => exact (show u_lay RX12 TX12 17 ∈ xT from List.mem_filter.mpr ⟨List.mem_append_right _ (List.mem_of_getElem? (i := 1198) (by decide +kernel)), by decide +kernel⟩)
  | q + 18, hq => omega
theorem ft_X12 : xFt RX12 TX12 18 tyX12 := ⟨tyX12_ok, nmX12⟩
theorem in_L : Cond.initialized RL ∈ xT := List.mem_filter.mpr ⟨List.mem_append_right _ (List.mem_of_getElem? (i := 0) (by decide +kernel)), by decide +kernel⟩
theorem in_X11 : Cond.initialized RX11 ∈ xT := List.mem_filter.mpr ⟨List.mem_append_right _ (List.mem_of_getElem? (i := 1) (by decide +kernel)), by decide +kernel⟩
theorem in_X8 : Cond.initialized RX8 ∈ xT := List.mem_filter.mpr ⟨List.mem_append_right _ (List.mem_of_getElem? (i := 2) (by decide +kernel)), by decide +kernel⟩
theorem in_X9 : Cond.initialized RX9 ∈ xT := List.mem_filter.mpr ⟨List.mem_append_right _ (List.mem_of_getElem? (i := 3) (by decide +kernel)), by decide +kernel⟩
theorem in_X10 : Cond.initialized RX10 ∈ xT := List.mem_filter.mpr ⟨List.mem_append_right _ (List.mem_of_getElem? (i := 4) (by decide +kernel)), by decide +kernel⟩
theorem in_X2 : Cond.initialized RX2 ∈ xT := List.mem_filter.mpr ⟨List.mem_append_right _ (List.mem_of_getElem? (i := 5) (by decide +kernel)), by decide +kernel⟩
theorem in_X1 : Cond.initialized RX1 ∈ xT := List.mem_filter.mpr ⟨List.mem_append_right _ (List.mem_of_getElem? (i := 6) (by decide +kernel)), by decide +kernel⟩
theorem in_X4 : Cond.initialized RX4 ∈ xT := List.mem_filter.mpr ⟨List.mem_append_right _ (List.mem_of_getElem? (i := 7) (by decide +kernel)), by decide +kernel⟩
theorem in_X5 : Cond.initialized RX5 ∈ xT := List.mem_filter.mpr ⟨List.mem_append_right _ (List.mem_of_getElem? (i := 8) (by decide +kernel)), by decide +kernel⟩
theorem in_X0 : Cond.initialized RX0 ∈ xT := List.mem_filter.mpr ⟨List.mem_append_right _ (List.mem_of_getElem? (i := 9) (by decide +kernel)), by decide +kernel⟩
theorem in_X6 : Cond.initialized RX6 ∈ xT := List.mem_filter.mpr ⟨List.mem_append_right _ (List.mem_of_getElem? (i := 10) (by decide +kernel)), by decide +kernel⟩
theorem in_X7 : Cond.initialized RX7 ∈ xT := List.mem_filter.mpr ⟨List.mem_append_right _ (List.mem_of_getElem? (i := 11) (by decide +kernel)), by decide +kernel⟩
theorem in_X3 : Cond.initialized RX3 ∈ xT := List.mem_filter.mpr ⟨List.mem_append_right _ (List.mem_of_getElem? (i := 12) (by decide +kernel)), by decide +kernel⟩
theorem in_X12 : Cond.initialized RX12 ∈ xT := List.mem_filter.mpr ⟨List.mem_append_right _ (List.mem_of_getElem? (i := 13) (by decide +kernel)), by decide +kernel⟩
theorem in_java_lang_Throwable : Cond.initialized "java/lang/Throwable" ∈ xT := List.mem_filter.mpr ⟨List.mem_append_right _ (List.mem_of_getElem? (i := 14) (by decide +kernel)), by decide +kernel⟩
theorem in_java_lang_Exception : Cond.initialized "java/lang/Exception" ∈ xT := List.mem_filter.mpr ⟨List.mem_append_right _ (List.mem_of_getElem? (i := 15) (by decide +kernel)), by decide +kernel⟩
theorem in_java_lang_RuntimeException : Cond.initialized "java/lang/RuntimeException" ∈ xT := List.mem_filter.mpr ⟨List.mem_append_right _ (List.mem_of_getElem? (i := 16) (by decide +kernel)), by decide +kernel⟩
theorem in_java_lang_IllegalArgumentException : Cond.initialized "java/lang/IllegalArgumentException" ∈ xT := List.mem_filter.mpr ⟨List.mem_append_right _ (List.mem_of_getElem? (i := 17) (by decide +kernel)), by decide +kernel⟩
theorem in_J9 : Cond.initialized RJ9 ∈ xT := List.mem_filter.mpr ⟨List.mem_append_right _ (List.mem_of_getElem? (i := 18) (by decide +kernel)), by decide +kernel⟩
theorem in_J0 : Cond.initialized RJ0 ∈ xT := List.mem_filter.mpr ⟨List.mem_append_right _ (List.mem_of_getElem? (i := 19) (by decide +kernel)), by decide +kernel⟩
theorem in_J1 : Cond.initialized RJ1 ∈ xT := List.mem_filter.mpr ⟨List.mem_append_right _ (List.mem_of_getElem? (i := 20) (by decide +kernel)), by decide +kernel⟩
theorem in_J3 : Cond.initialized RJ3 ∈ xT := List.mem_filter.mpr ⟨List.mem_append_right _ (List.mem_of_getElem? (i := 21) (by decide +kernel)), by decide +kernel⟩
theorem in_J2 : Cond.initialized RJ2 ∈ xT := List.mem_filter.mpr ⟨List.mem_append_right _ (List.mem_of_getElem? (i := 22) (by decide +kernel)), by decide +kernel⟩
theorem in_J7 : Cond.initialized RJ7 ∈ xT := List.mem_filter.mpr ⟨List.mem_append_right _ (List.mem_of_getElem? (i := 23) (by decide +kernel)), by decide +kernel⟩
theorem in_J10 : Cond.initialized RJ10 ∈ xT := List.mem_filter.mpr ⟨List.mem_append_right _ (List.mem_of_getElem? (i := 24) (by decide +kernel)), by decide +kernel⟩
theorem in_java_lang_IndexOutOfBoundsException : Cond.initialized "java/lang/IndexOutOfBoundsException" ∈ xT := List.mem_filter.mpr ⟨List.mem_append_right _ (List.mem_of_getElem? (i := 25) (by decide +kernel)), by decide +kernel⟩
theorem in_java_util_NoSuchElementException : Cond.initialized "java/util/NoSuchElementException" ∈ xT := List.mem_filter.mpr ⟨List.mem_append_right _ (List.mem_of_getElem? (i := 26) (by decide +kernel)), by decide +kernel⟩
theorem in_java_lang_IllegalStateException : Cond.initialized "java/lang/IllegalStateException" ∈ xT := List.mem_filter.mpr ⟨List.mem_append_right _ (List.mem_of_getElem? (i := 27) (by decide +kernel)), by decide +kernel⟩
theorem kl_L_8 : Cond.classLink RL 8 RX11 ∈ xT := List.mem_filter.mpr ⟨List.mem_append_right _ (List.mem_of_getElem? (i := 28) (by decide +kernel)), by decide +kernel⟩
theorem is_X11 : Cond.instantiable RX11 5 ∈ xT := List.mem_filter.mpr ⟨List.mem_append_right _ (List.mem_of_getElem? (i := 29) (by decide +kernel)), by decide +kernel⟩
theorem im_X11_init : Cond.instanceMethod yX11_init ∈ xT := List.mem_filter.mpr ⟨List.mem_append_right _ (List.mem_of_getElem? (i := 31) (by decide +kernel)), by decide +kernel⟩
theorem co_X11_init : Cond.code yX11_init cX11_init 1 none ∈ xT := List.mem_filter.mpr ⟨List.mem_append_right _ (List.mem_of_getElem? (i := 32) (by decide +kernel)), by decide +kernel⟩
theorem kl_X11_7 : Cond.classLink RX11 7 RX8 ∈ xT := List.mem_filter.mpr ⟨List.mem_append_right _ (List.mem_of_getElem? (i := 36) (by decide +kernel)), by decide +kernel⟩
theorem is_X8 : Cond.instantiable RX8 9 ∈ xT := List.mem_filter.mpr ⟨List.mem_append_right _ (List.mem_of_getElem? (i := 37) (by decide +kernel)), by decide +kernel⟩
theorem im_X8_init : Cond.instanceMethod yX8_init ∈ xT := List.mem_filter.mpr ⟨List.mem_append_right _ (List.mem_of_getElem? (i := 39) (by decide +kernel)), by decide +kernel⟩
theorem co_X8_init : Cond.code yX8_init cX8_init 1 none ∈ xT := List.mem_filter.mpr ⟨List.mem_append_right _ (List.mem_of_getElem? (i := 40) (by decide +kernel)), by decide +kernel⟩
theorem kl_X8_9 : Cond.classLink RX8 9 RX9 ∈ xT := List.mem_filter.mpr ⟨List.mem_append_right _ (List.mem_of_getElem? (i := 42) (by decide +kernel)), by decide +kernel⟩
theorem is_X9 : Cond.instantiable RX9 7 ∈ xT := List.mem_filter.mpr ⟨List.mem_append_right _ (List.mem_of_getElem? (i := 43) (by decide +kernel)), by decide +kernel⟩
theorem im_X9_init : Cond.instanceMethod yX9_init ∈ xT := List.mem_filter.mpr ⟨List.mem_append_right _ (List.mem_of_getElem? (i := 45) (by decide +kernel)), by decide +kernel⟩
theorem co_X9_init : Cond.code yX9_init cX9_init 1 none ∈ xT := List.mem_filter.mpr ⟨List.mem_append_right _ (List.mem_of_getElem? (i := 46) (by decide +kernel)), by decide +kernel⟩
theorem ac_byte : Cond.arrayClass .byte ∈ xT := List.mem_filter.mpr ⟨List.mem_append_right _ (List.mem_of_getElem? (i := 74) (by decide +kernel)), by decide +kernel⟩
theorem kl_X8_18 : Cond.classLink RX8 18 RX10 ∈ xT := List.mem_filter.mpr ⟨List.mem_append_right _ (List.mem_of_getElem? (i := 75) (by decide +kernel)), by decide +kernel⟩
theorem is_X10 : Cond.instantiable RX10 15 ∈ xT := List.mem_filter.mpr ⟨List.mem_append_right _ (List.mem_of_getElem? (i := 76) (by decide +kernel)), by decide +kernel⟩
theorem im_X10_init : Cond.instanceMethod yX10_init ∈ xT := List.mem_filter.mpr ⟨List.mem_append_right _ (List.mem_of_getElem? (i := 78) (by decide +kernel)), by decide +kernel⟩
theorem co_X10_init : Cond.code yX10_init cX10_init 1 none ∈ xT := List.mem_filter.mpr ⟨List.mem_append_right _ (List.mem_of_getElem? (i := 79) (by decide +kernel)), by decide +kernel⟩
theorem kl_X10_9 : Cond.classLink RX10 9 RX2 ∈ xT := List.mem_filter.mpr ⟨List.mem_append_right _ (List.mem_of_getElem? (i := 81) (by decide +kernel)), by decide +kernel⟩
theorem is_X2 : Cond.instantiable RX2 4 ∈ xT := List.mem_filter.mpr ⟨List.mem_append_right _ (List.mem_of_getElem? (i := 82) (by decide +kernel)), by decide +kernel⟩
theorem im_X2_init : Cond.instanceMethod yX2_init ∈ xT := List.mem_filter.mpr ⟨List.mem_append_right _ (List.mem_of_getElem? (i := 84) (by decide +kernel)), by decide +kernel⟩
theorem co_X2_init : Cond.code yX2_init cX2_init 1 none ∈ xT := List.mem_filter.mpr ⟨List.mem_append_right _ (List.mem_of_getElem? (i := 85) (by decide +kernel)), by decide +kernel⟩
theorem ac_int : Cond.arrayClass .int ∈ xT := List.mem_filter.mpr ⟨List.mem_append_right _ (List.mem_of_getElem? (i := 109) (by decide +kernel)), by decide +kernel⟩
theorem kl_X10_18 : Cond.classLink RX10 18 RX1 ∈ xT := List.mem_filter.mpr ⟨List.mem_append_right _ (List.mem_of_getElem? (i := 110) (by decide +kernel)), by decide +kernel⟩
theorem is_X1 : Cond.instantiable RX1 5 ∈ xT := List.mem_filter.mpr ⟨List.mem_append_right _ (List.mem_of_getElem? (i := 111) (by decide +kernel)), by decide +kernel⟩
theorem im_X1_init : Cond.instanceMethod yX1_init ∈ xT := List.mem_filter.mpr ⟨List.mem_append_right _ (List.mem_of_getElem? (i := 113) (by decide +kernel)), by decide +kernel⟩
theorem co_X1_init : Cond.code yX1_init cX1_init 1 none ∈ xT := List.mem_filter.mpr ⟨List.mem_append_right _ (List.mem_of_getElem? (i := 114) (by decide +kernel)), by decide +kernel⟩
theorem kl_X10_25 : Cond.classLink RX10 25 RX4 ∈ xT := List.mem_filter.mpr ⟨List.mem_append_right _ (List.mem_of_getElem? (i := 141) (by decide +kernel)), by decide +kernel⟩
theorem is_X4 : Cond.instantiable RX4 5 ∈ xT := List.mem_filter.mpr ⟨List.mem_append_right _ (List.mem_of_getElem? (i := 142) (by decide +kernel)), by decide +kernel⟩
theorem im_X4_init : Cond.instanceMethod yX4_init ∈ xT := List.mem_filter.mpr ⟨List.mem_append_right _ (List.mem_of_getElem? (i := 144) (by decide +kernel)), by decide +kernel⟩
theorem co_X4_init : Cond.code yX4_init cX4_init 1 none ∈ xT := List.mem_filter.mpr ⟨List.mem_append_right _ (List.mem_of_getElem? (i := 145) (by decide +kernel)), by decide +kernel⟩
theorem kl_X10_32 : Cond.classLink RX10 32 RX5 ∈ xT := List.mem_filter.mpr ⟨List.mem_append_right _ (List.mem_of_getElem? (i := 167) (by decide +kernel)), by decide +kernel⟩
theorem is_X5 : Cond.instantiable RX5 9 ∈ xT := List.mem_filter.mpr ⟨List.mem_append_right _ (List.mem_of_getElem? (i := 168) (by decide +kernel)), by decide +kernel⟩
theorem im_X5_init : Cond.instanceMethod yX5_init ∈ xT := List.mem_filter.mpr ⟨List.mem_append_right _ (List.mem_of_getElem? (i := 170) (by decide +kernel)), by decide +kernel⟩
theorem co_X5_init : Cond.code yX5_init cX5_init 1 none ∈ xT := List.mem_filter.mpr ⟨List.mem_append_right _ (List.mem_of_getElem? (i := 171) (by decide +kernel)), by decide +kernel⟩
theorem kl_X10_39 : Cond.classLink RX10 39 RX0 ∈ xT := List.mem_filter.mpr ⟨List.mem_append_right _ (List.mem_of_getElem? (i := 218) (by decide +kernel)), by decide +kernel⟩
theorem is_X0 : Cond.instantiable RX0 5 ∈ xT := List.mem_filter.mpr ⟨List.mem_append_right _ (List.mem_of_getElem? (i := 219) (by decide +kernel)), by decide +kernel⟩
theorem im_X0_init : Cond.instanceMethod yX0_init ∈ xT := List.mem_filter.mpr ⟨List.mem_append_right _ (List.mem_of_getElem? (i := 221) (by decide +kernel)), by decide +kernel⟩
theorem co_X0_init : Cond.code yX0_init cX0_init 1 none ∈ xT := List.mem_filter.mpr ⟨List.mem_append_right _ (List.mem_of_getElem? (i := 222) (by decide +kernel)), by decide +kernel⟩
theorem kl_X10_46 : Cond.classLink RX10 46 RX6 ∈ xT := List.mem_filter.mpr ⟨List.mem_append_right _ (List.mem_of_getElem? (i := 248) (by decide +kernel)), by decide +kernel⟩
theorem is_X6 : Cond.instantiable RX6 7 ∈ xT := List.mem_filter.mpr ⟨List.mem_append_right _ (List.mem_of_getElem? (i := 249) (by decide +kernel)), by decide +kernel⟩
theorem im_X6_init : Cond.instanceMethod yX6_init ∈ xT := List.mem_filter.mpr ⟨List.mem_append_right _ (List.mem_of_getElem? (i := 251) (by decide +kernel)), by decide +kernel⟩
theorem co_X6_init : Cond.code yX6_init cX6_init 1 none ∈ xT := List.mem_filter.mpr ⟨List.mem_append_right _ (List.mem_of_getElem? (i := 252) (by decide +kernel)), by decide +kernel⟩
theorem kl_X10_53 : Cond.classLink RX10 53 RX7 ∈ xT := List.mem_filter.mpr ⟨List.mem_append_right _ (List.mem_of_getElem? (i := 276) (by decide +kernel)), by decide +kernel⟩
theorem is_X7 : Cond.instantiable RX7 2 ∈ xT := List.mem_filter.mpr ⟨List.mem_append_right _ (List.mem_of_getElem? (i := 277) (by decide +kernel)), by decide +kernel⟩
theorem im_X7_init : Cond.instanceMethod yX7_init ∈ xT := List.mem_filter.mpr ⟨List.mem_append_right _ (List.mem_of_getElem? (i := 279) (by decide +kernel)), by decide +kernel⟩
theorem co_X7_init : Cond.code yX7_init cX7_init 2 none ∈ xT := List.mem_filter.mpr ⟨List.mem_append_right _ (List.mem_of_getElem? (i := 280) (by decide +kernel)), by decide +kernel⟩
theorem kc_X10_75 : Cond.constant RX10 75 (Int32.ofInt (1000000)) ∈ xT := List.mem_filter.mpr ⟨List.mem_append_right _ (List.mem_of_getElem? (i := 289) (by decide +kernel)), by decide +kernel⟩
theorem kl_X11_16 : Cond.classLink RX11 16 RX10 ∈ xT := List.mem_filter.mpr ⟨List.mem_append_right _ (List.mem_of_getElem? (i := 388) (by decide +kernel)), by decide +kernel⟩
theorem kl_X11_26 : Cond.classLink RX11 26 RX3 ∈ xT := List.mem_filter.mpr ⟨List.mem_append_right _ (List.mem_of_getElem? (i := 390) (by decide +kernel)), by decide +kernel⟩
theorem is_X3 : Cond.instantiable RX3 3 ∈ xT := List.mem_filter.mpr ⟨List.mem_append_right _ (List.mem_of_getElem? (i := 391) (by decide +kernel)), by decide +kernel⟩
theorem im_X3_init : Cond.instanceMethod yX3_init ∈ xT := List.mem_filter.mpr ⟨List.mem_append_right _ (List.mem_of_getElem? (i := 393) (by decide +kernel)), by decide +kernel⟩
theorem co_X3_init : Cond.code yX3_init cX3_init 2 none ∈ xT := List.mem_filter.mpr ⟨List.mem_append_right _ (List.mem_of_getElem? (i := 394) (by decide +kernel)), by decide +kernel⟩
theorem kl_X3_9 : Cond.classLink RX3 9 RX10 ∈ xT := List.mem_filter.mpr ⟨List.mem_append_right _ (List.mem_of_getElem? (i := 396) (by decide +kernel)), by decide +kernel⟩
theorem im_X11_append : Cond.instanceMethod yX11_append ∈ xT := List.mem_filter.mpr ⟨List.mem_append_right _ (List.mem_of_getElem? (i := 426) (by decide +kernel)), by decide +kernel⟩
theorem se_X11_append : Cond.selects yX11_append.cls yX11_append yX11_append ∈ xT := List.mem_filter.mpr ⟨List.mem_append_right _ (List.mem_of_getElem? (i := 427) (by decide +kernel)), by decide +kernel⟩
theorem co_X11_append : Cond.code yX11_append cX11_append 7 (some .int) ∈ xT := List.mem_filter.mpr ⟨List.mem_append_right _ (List.mem_of_getElem? (i := 428) (by decide +kernel)), by decide +kernel⟩
theorem im_X9_put : Cond.instanceMethod yX9_put ∈ xT := List.mem_filter.mpr ⟨List.mem_append_right _ (List.mem_of_getElem? (i := 430) (by decide +kernel)), by decide +kernel⟩
theorem se_X9_put : Cond.selects yX9_put.cls yX9_put yX9_put ∈ xT := List.mem_filter.mpr ⟨List.mem_append_right _ (List.mem_of_getElem? (i := 431) (by decide +kernel)), by decide +kernel⟩
theorem co_X9_put : Cond.code yX9_put cX9_put 3 none ∈ xT := List.mem_filter.mpr ⟨List.mem_append_right _ (List.mem_of_getElem? (i := 432) (by decide +kernel)), by decide +kernel⟩
theorem im_X11_errorOffset : Cond.instanceMethod yX11_errorOffset ∈ xT := List.mem_filter.mpr ⟨List.mem_append_right _ (List.mem_of_getElem? (i := 434) (by decide +kernel)), by decide +kernel⟩
theorem se_X11_errorOffset : Cond.selects yX11_errorOffset.cls yX11_errorOffset yX11_errorOffset ∈ xT := List.mem_filter.mpr ⟨List.mem_append_right _ (List.mem_of_getElem? (i := 435) (by decide +kernel)), by decide +kernel⟩
theorem co_X11_errorOffset : Cond.code yX11_errorOffset cX11_errorOffset 1 (some .int) ∈ xT := List.mem_filter.mpr ⟨List.mem_append_right _ (List.mem_of_getElem? (i := 436) (by decide +kernel)), by decide +kernel⟩
theorem im_X11_undo : Cond.instanceMethod yX11_undo ∈ xT := List.mem_filter.mpr ⟨List.mem_append_right _ (List.mem_of_getElem? (i := 438) (by decide +kernel)), by decide +kernel⟩
theorem se_X11_undo : Cond.selects yX11_undo.cls yX11_undo yX11_undo ∈ xT := List.mem_filter.mpr ⟨List.mem_append_right _ (List.mem_of_getElem? (i := 439) (by decide +kernel)), by decide +kernel⟩
theorem co_X11_undo : Cond.code yX11_undo cX11_undo 1 (some .int) ∈ xT := List.mem_filter.mpr ⟨List.mem_append_right _ (List.mem_of_getElem? (i := 440) (by decide +kernel)), by decide +kernel⟩
theorem im_X3_takeBack : Cond.instanceMethod yX3_takeBack ∈ xT := List.mem_filter.mpr ⟨List.mem_append_right _ (List.mem_of_getElem? (i := 442) (by decide +kernel)), by decide +kernel⟩
theorem se_X3_takeBack : Cond.selects yX3_takeBack.cls yX3_takeBack yX3_takeBack ∈ xT := List.mem_filter.mpr ⟨List.mem_append_right _ (List.mem_of_getElem? (i := 443) (by decide +kernel)), by decide +kernel⟩
theorem co_X3_takeBack : Cond.code yX3_takeBack cX3_takeBack 4 (some .int) ∈ xT := List.mem_filter.mpr ⟨List.mem_append_right _ (List.mem_of_getElem? (i := 444) (by decide +kernel)), by decide +kernel⟩
theorem im_X3_at : Cond.instanceMethod yX3_at ∈ xT := List.mem_filter.mpr ⟨List.mem_append_right _ (List.mem_of_getElem? (i := 447) (by decide +kernel)), by decide +kernel⟩
theorem co_X3_at : Cond.code yX3_at cX3_at 2 (some (.object "PacketToll$World")) ∈ xT := List.mem_filter.mpr ⟨List.mem_append_right _ (List.mem_of_getElem? (i := 448) (by decide +kernel)), by decide +kernel⟩
theorem im_X10_copyFrom : Cond.instanceMethod yX10_copyFrom ∈ xT := List.mem_filter.mpr ⟨List.mem_append_right _ (List.mem_of_getElem? (i := 450) (by decide +kernel)), by decide +kernel⟩
theorem se_X10_copyFrom : Cond.selects yX10_copyFrom.cls yX10_copyFrom yX10_copyFrom ∈ xT := List.mem_filter.mpr ⟨List.mem_append_right _ (List.mem_of_getElem? (i := 451) (by decide +kernel)), by decide +kernel⟩
theorem co_X10_copyFrom : Cond.code yX10_copyFrom cX10_copyFrom 2 none ∈ xT := List.mem_filter.mpr ⟨List.mem_append_right _ (List.mem_of_getElem? (i := 452) (by decide +kernel)), by decide +kernel⟩
theorem im_X2_copyFrom : Cond.instanceMethod yX2_copyFrom ∈ xT := List.mem_filter.mpr ⟨List.mem_append_right _ (List.mem_of_getElem? (i := 454) (by decide +kernel)), by decide +kernel⟩
theorem se_X2_copyFrom : Cond.selects yX2_copyFrom.cls yX2_copyFrom yX2_copyFrom ∈ xT := List.mem_filter.mpr ⟨List.mem_append_right _ (List.mem_of_getElem? (i := 455) (by decide +kernel)), by decide +kernel⟩
theorem co_X2_copyFrom : Cond.code yX2_copyFrom cX2_copyFrom 2 none ∈ xT := List.mem_filter.mpr ⟨List.mem_append_right _ (List.mem_of_getElem? (i := 456) (by decide +kernel)), by decide +kernel⟩
theorem sm_X11_copyRow : Cond.static yX11_copyRow ∈ xT := List.mem_filter.mpr ⟨List.mem_append_right _ (List.mem_of_getElem? (i := 458) (by decide +kernel)), by decide +kernel⟩
theorem co_X11_copyRow : Cond.code yX11_copyRow cX11_copyRow 3 none ∈ xT := List.mem_filter.mpr ⟨List.mem_append_right _ (List.mem_of_getElem? (i := 459) (by decide +kernel)), by decide +kernel⟩
theorem im_X1_copyFrom : Cond.instanceMethod yX1_copyFrom ∈ xT := List.mem_filter.mpr ⟨List.mem_append_right _ (List.mem_of_getElem? (i := 464) (by decide +kernel)), by decide +kernel⟩
theorem se_X1_copyFrom : Cond.selects yX1_copyFrom.cls yX1_copyFrom yX1_copyFrom ∈ xT := List.mem_filter.mpr ⟨List.mem_append_right _ (List.mem_of_getElem? (i := 465) (by decide +kernel)), by decide +kernel⟩
theorem co_X1_copyFrom : Cond.code yX1_copyFrom cX1_copyFrom 2 none ∈ xT := List.mem_filter.mpr ⟨List.mem_append_right _ (List.mem_of_getElem? (i := 466) (by decide +kernel)), by decide +kernel⟩
theorem im_X4_copyFrom : Cond.instanceMethod yX4_copyFrom ∈ xT := List.mem_filter.mpr ⟨List.mem_append_right _ (List.mem_of_getElem? (i := 469) (by decide +kernel)), by decide +kernel⟩
theorem se_X4_copyFrom : Cond.selects yX4_copyFrom.cls yX4_copyFrom yX4_copyFrom ∈ xT := List.mem_filter.mpr ⟨List.mem_append_right _ (List.mem_of_getElem? (i := 470) (by decide +kernel)), by decide +kernel⟩
theorem co_X4_copyFrom : Cond.code yX4_copyFrom cX4_copyFrom 2 none ∈ xT := List.mem_filter.mpr ⟨List.mem_append_right _ (List.mem_of_getElem? (i := 471) (by decide +kernel)), by decide +kernel⟩
theorem im_X5_copyFrom : Cond.instanceMethod yX5_copyFrom ∈ xT := List.mem_filter.mpr ⟨List.mem_append_right _ (List.mem_of_getElem? (i := 474) (by decide +kernel)), by decide +kernel⟩
theorem se_X5_copyFrom : Cond.selects yX5_copyFrom.cls yX5_copyFrom yX5_copyFrom ∈ xT := List.mem_filter.mpr ⟨List.mem_append_right _ (List.mem_of_getElem? (i := 475) (by decide +kernel)), by decide +kernel⟩
theorem co_X5_copyFrom : Cond.code yX5_copyFrom cX5_copyFrom 2 none ∈ xT := List.mem_filter.mpr ⟨List.mem_append_right _ (List.mem_of_getElem? (i := 476) (by decide +kernel)), by decide +kernel⟩
theorem im_X0_copyFrom : Cond.instanceMethod yX0_copyFrom ∈ xT := List.mem_filter.mpr ⟨List.mem_append_right _ (List.mem_of_getElem? (i := 479) (by decide +kernel)), by decide +kernel⟩
theorem se_X0_copyFrom : Cond.selects yX0_copyFrom.cls yX0_copyFrom yX0_copyFrom ∈ xT := List.mem_filter.mpr ⟨List.mem_append_right _ (List.mem_of_getElem? (i := 480) (by decide +kernel)), by decide +kernel⟩
theorem co_X0_copyFrom : Cond.code yX0_copyFrom cX0_copyFrom 2 none ∈ xT := List.mem_filter.mpr ⟨List.mem_append_right _ (List.mem_of_getElem? (i := 481) (by decide +kernel)), by decide +kernel⟩
theorem im_X6_copyFrom : Cond.instanceMethod yX6_copyFrom ∈ xT := List.mem_filter.mpr ⟨List.mem_append_right _ (List.mem_of_getElem? (i := 484) (by decide +kernel)), by decide +kernel⟩
theorem se_X6_copyFrom : Cond.selects yX6_copyFrom.cls yX6_copyFrom yX6_copyFrom ∈ xT := List.mem_filter.mpr ⟨List.mem_append_right _ (List.mem_of_getElem? (i := 485) (by decide +kernel)), by decide +kernel⟩
theorem co_X6_copyFrom : Cond.code yX6_copyFrom cX6_copyFrom 2 none ∈ xT := List.mem_filter.mpr ⟨List.mem_append_right _ (List.mem_of_getElem? (i := 486) (by decide +kernel)), by decide +kernel⟩
theorem im_X11_checksum : Cond.instanceMethod yX11_checksum ∈ xT := List.mem_filter.mpr ⟨List.mem_append_right _ (List.mem_of_getElem? (i := 489) (by decide +kernel)), by decide +kernel⟩
theorem se_X11_checksum : Cond.selects yX11_checksum.cls yX11_checksum yX11_checksum ∈ xT := List.mem_filter.mpr ⟨List.mem_append_right _ (List.mem_of_getElem? (i := 490) (by decide +kernel)), by decide +kernel⟩
theorem co_X11_checksum : Cond.code yX11_checksum cX11_checksum 5 (some .long) ∈ xT := List.mem_filter.mpr ⟨List.mem_append_right _ (List.mem_of_getElem? (i := 491) (by decide +kernel)), by decide +kernel⟩
theorem kc_X11_260 : Cond.constantLong RX11 260 (Int64.ofInt (31)) ∈ xT := List.mem_filter.mpr ⟨List.mem_append_right _ (List.mem_of_getElem? (i := 492) (by decide +kernel)), by decide +kernel⟩
theorem im_X11_state : Cond.instanceMethod yX11_state ∈ xT := List.mem_filter.mpr ⟨List.mem_append_right _ (List.mem_of_getElem? (i := 494) (by decide +kernel)), by decide +kernel⟩
theorem se_X11_state : Cond.selects yX11_state.cls yX11_state yX11_state ∈ xT := List.mem_filter.mpr ⟨List.mem_append_right _ (List.mem_of_getElem? (i := 495) (by decide +kernel)), by decide +kernel⟩
theorem co_X11_state : Cond.code yX11_state cX11_state 2 (some .int) ∈ xT := List.mem_filter.mpr ⟨List.mem_append_right _ (List.mem_of_getElem? (i := 496) (by decide +kernel)), by decide +kernel⟩
theorem im_X5_countIn : Cond.instanceMethod yX5_countIn ∈ xT := List.mem_filter.mpr ⟨List.mem_append_right _ (List.mem_of_getElem? (i := 498) (by decide +kernel)), by decide +kernel⟩
theorem se_X5_countIn : Cond.selects yX5_countIn.cls yX5_countIn yX5_countIn ∈ xT := List.mem_filter.mpr ⟨List.mem_append_right _ (List.mem_of_getElem? (i := 499) (by decide +kernel)), by decide +kernel⟩
theorem co_X5_countIn : Cond.code yX5_countIn cX5_countIn 4 (some .int) ∈ xT := List.mem_filter.mpr ⟨List.mem_append_right _ (List.mem_of_getElem? (i := 500) (by decide +kernel)), by decide +kernel⟩
theorem kl_X11_50 : Cond.classLink RX11 50 "java/lang/IllegalArgumentException" ∈ xT := List.mem_filter.mpr ⟨List.mem_append_right _ (List.mem_of_getElem? (i := 501) (by decide +kernel)), by decide +kernel⟩
theorem im_X11_flow : Cond.instanceMethod yX11_flow ∈ xT := List.mem_filter.mpr ⟨List.mem_append_right _ (List.mem_of_getElem? (i := 570) (by decide +kernel)), by decide +kernel⟩
theorem se_X11_flow : Cond.selects yX11_flow.cls yX11_flow yX11_flow ∈ xT := List.mem_filter.mpr ⟨List.mem_append_right _ (List.mem_of_getElem? (i := 571) (by decide +kernel)), by decide +kernel⟩
theorem co_X11_flow : Cond.code yX11_flow cX11_flow 3 (some .int) ∈ xT := List.mem_filter.mpr ⟨List.mem_append_right _ (List.mem_of_getElem? (i := 572) (by decide +kernel)), by decide +kernel⟩
theorem im_X11_checkFlow : Cond.instanceMethod yX11_checkFlow ∈ xT := List.mem_filter.mpr ⟨List.mem_append_right _ (List.mem_of_getElem? (i := 575) (by decide +kernel)), by decide +kernel⟩
theorem co_X11_checkFlow : Cond.code yX11_checkFlow cX11_checkFlow 2 none ∈ xT := List.mem_filter.mpr ⟨List.mem_append_right _ (List.mem_of_getElem? (i := 576) (by decide +kernel)), by decide +kernel⟩
theorem kl_X11_277 : Cond.classLink RX11 277 "java/lang/IndexOutOfBoundsException" ∈ xT := List.mem_filter.mpr ⟨List.mem_append_right _ (List.mem_of_getElem? (i := 577) (by decide +kernel)), by decide +kernel⟩
theorem im_X0_countOf : Cond.instanceMethod yX0_countOf ∈ xT := List.mem_filter.mpr ⟨List.mem_append_right _ (List.mem_of_getElem? (i := 594) (by decide +kernel)), by decide +kernel⟩
theorem se_X0_countOf : Cond.selects yX0_countOf.cls yX0_countOf yX0_countOf ∈ xT := List.mem_filter.mpr ⟨List.mem_append_right _ (List.mem_of_getElem? (i := 595) (by decide +kernel)), by decide +kernel⟩
theorem co_X0_countOf : Cond.code yX0_countOf cX0_countOf 4 (some .int) ∈ xT := List.mem_filter.mpr ⟨List.mem_append_right _ (List.mem_of_getElem? (i := 596) (by decide +kernel)), by decide +kernel⟩
theorem im_X0_sumOf : Cond.instanceMethod yX0_sumOf ∈ xT := List.mem_filter.mpr ⟨List.mem_append_right _ (List.mem_of_getElem? (i := 598) (by decide +kernel)), by decide +kernel⟩
theorem se_X0_sumOf : Cond.selects yX0_sumOf.cls yX0_sumOf yX0_sumOf ∈ xT := List.mem_filter.mpr ⟨List.mem_append_right _ (List.mem_of_getElem? (i := 599) (by decide +kernel)), by decide +kernel⟩
theorem co_X0_sumOf : Cond.code yX0_sumOf cX0_sumOf 4 (some .int) ∈ xT := List.mem_filter.mpr ⟨List.mem_append_right _ (List.mem_of_getElem? (i := 600) (by decide +kernel)), by decide +kernel⟩
theorem im_X5_deliveredSizeOf : Cond.instanceMethod yX5_deliveredSizeOf ∈ xT := List.mem_filter.mpr ⟨List.mem_append_right _ (List.mem_of_getElem? (i := 602) (by decide +kernel)), by decide +kernel⟩
theorem se_X5_deliveredSizeOf : Cond.selects yX5_deliveredSizeOf.cls yX5_deliveredSizeOf yX5_deliveredSizeOf ∈ xT := List.mem_filter.mpr ⟨List.mem_append_right _ (List.mem_of_getElem? (i := 603) (by decide +kernel)), by decide +kernel⟩
theorem co_X5_deliveredSizeOf : Cond.code yX5_deliveredSizeOf cX5_deliveredSizeOf 4 (some .int) ∈ xT := List.mem_filter.mpr ⟨List.mem_append_right _ (List.mem_of_getElem? (i := 604) (by decide +kernel)), by decide +kernel⟩
theorem im_X11_packet : Cond.instanceMethod yX11_packet ∈ xT := List.mem_filter.mpr ⟨List.mem_append_right _ (List.mem_of_getElem? (i := 606) (by decide +kernel)), by decide +kernel⟩
theorem se_X11_packet : Cond.selects yX11_packet.cls yX11_packet yX11_packet ∈ xT := List.mem_filter.mpr ⟨List.mem_append_right _ (List.mem_of_getElem? (i := 607) (by decide +kernel)), by decide +kernel⟩
theorem co_X11_packet : Cond.code yX11_packet cX11_packet 3 (some .int) ∈ xT := List.mem_filter.mpr ⟨List.mem_append_right _ (List.mem_of_getElem? (i := 608) (by decide +kernel)), by decide +kernel⟩
theorem im_X11_checkPacket : Cond.instanceMethod yX11_checkPacket ∈ xT := List.mem_filter.mpr ⟨List.mem_append_right _ (List.mem_of_getElem? (i := 611) (by decide +kernel)), by decide +kernel⟩
theorem co_X11_checkPacket : Cond.code yX11_checkPacket cX11_checkPacket 2 none ∈ xT := List.mem_filter.mpr ⟨List.mem_append_right _ (List.mem_of_getElem? (i := 612) (by decide +kernel)), by decide +kernel⟩
theorem im_X10_gateOf : Cond.instanceMethod yX10_gateOf ∈ xT := List.mem_filter.mpr ⟨List.mem_append_right _ (List.mem_of_getElem? (i := 615) (by decide +kernel)), by decide +kernel⟩
theorem se_X10_gateOf : Cond.selects yX10_gateOf.cls yX10_gateOf yX10_gateOf ∈ xT := List.mem_filter.mpr ⟨List.mem_append_right _ (List.mem_of_getElem? (i := 616) (by decide +kernel)), by decide +kernel⟩
theorem co_X10_gateOf : Cond.code yX10_gateOf cX10_gateOf 4 (some .int) ∈ xT := List.mem_filter.mpr ⟨List.mem_append_right _ (List.mem_of_getElem? (i := 617) (by decide +kernel)), by decide +kernel⟩
theorem im_X1_gateAt : Cond.instanceMethod yX1_gateAt ∈ xT := List.mem_filter.mpr ⟨List.mem_append_right _ (List.mem_of_getElem? (i := 619) (by decide +kernel)), by decide +kernel⟩
theorem se_X1_gateAt : Cond.selects yX1_gateAt.cls yX1_gateAt yX1_gateAt ∈ xT := List.mem_filter.mpr ⟨List.mem_append_right _ (List.mem_of_getElem? (i := 620) (by decide +kernel)), by decide +kernel⟩
theorem co_X1_gateAt : Cond.code yX1_gateAt cX1_gateAt 3 (some .int) ∈ xT := List.mem_filter.mpr ⟨List.mem_append_right _ (List.mem_of_getElem? (i := 621) (by decide +kernel)), by decide +kernel⟩
theorem im_X11_coupon : Cond.instanceMethod yX11_coupon ∈ xT := List.mem_filter.mpr ⟨List.mem_append_right _ (List.mem_of_getElem? (i := 623) (by decide +kernel)), by decide +kernel⟩
theorem se_X11_coupon : Cond.selects yX11_coupon.cls yX11_coupon yX11_coupon ∈ xT := List.mem_filter.mpr ⟨List.mem_append_right _ (List.mem_of_getElem? (i := 624) (by decide +kernel)), by decide +kernel⟩
theorem co_X11_coupon : Cond.code yX11_coupon cX11_coupon 3 (some .int) ∈ xT := List.mem_filter.mpr ⟨List.mem_append_right _ (List.mem_of_getElem? (i := 625) (by decide +kernel)), by decide +kernel⟩
theorem im_X11_checkCoupon : Cond.instanceMethod yX11_checkCoupon ∈ xT := List.mem_filter.mpr ⟨List.mem_append_right _ (List.mem_of_getElem? (i := 628) (by decide +kernel)), by decide +kernel⟩
theorem co_X11_checkCoupon : Cond.code yX11_checkCoupon cX11_checkCoupon 2 none ∈ xT := List.mem_filter.mpr ⟨List.mem_append_right _ (List.mem_of_getElem? (i := 629) (by decide +kernel)), by decide +kernel⟩
theorem im_X11_tokens : Cond.instanceMethod yX11_tokens ∈ xT := List.mem_filter.mpr ⟨List.mem_append_right _ (List.mem_of_getElem? (i := 632) (by decide +kernel)), by decide +kernel⟩
theorem se_X11_tokens : Cond.selects yX11_tokens.cls yX11_tokens yX11_tokens ∈ xT := List.mem_filter.mpr ⟨List.mem_append_right _ (List.mem_of_getElem? (i := 633) (by decide +kernel)), by decide +kernel⟩
theorem co_X11_tokens : Cond.code yX11_tokens cX11_tokens 3 (some .int) ∈ xT := List.mem_filter.mpr ⟨List.mem_append_right _ (List.mem_of_getElem? (i := 634) (by decide +kernel)), by decide +kernel⟩
theorem im_X11_checkGate : Cond.instanceMethod yX11_checkGate ∈ xT := List.mem_filter.mpr ⟨List.mem_append_right _ (List.mem_of_getElem? (i := 637) (by decide +kernel)), by decide +kernel⟩
theorem co_X11_checkGate : Cond.code yX11_checkGate cX11_checkGate 2 none ∈ xT := List.mem_filter.mpr ⟨List.mem_append_right _ (List.mem_of_getElem? (i := 638) (by decide +kernel)), by decide +kernel⟩
theorem im_X11_queue : Cond.instanceMethod yX11_queue ∈ xT := List.mem_filter.mpr ⟨List.mem_append_right _ (List.mem_of_getElem? (i := 641) (by decide +kernel)), by decide +kernel⟩
theorem se_X11_queue : Cond.selects yX11_queue.cls yX11_queue yX11_queue ∈ xT := List.mem_filter.mpr ⟨List.mem_append_right _ (List.mem_of_getElem? (i := 642) (by decide +kernel)), by decide +kernel⟩
theorem co_X11_queue : Cond.code yX11_queue cX11_queue 3 (some .int) ∈ xT := List.mem_filter.mpr ⟨List.mem_append_right _ (List.mem_of_getElem? (i := 643) (by decide +kernel)), by decide +kernel⟩
theorem sm_L_load : Cond.static yL_load ∈ xT := List.mem_filter.mpr ⟨List.mem_append_right _ (List.mem_of_getElem? (i := 645) (by decide +kernel)), by decide +kernel⟩
theorem kl_L_13 : Cond.classLink RL 13 "java/lang/IllegalArgumentException" ∈ xT := List.mem_filter.mpr ⟨List.mem_append_right _ (List.mem_of_getElem? (i := 647) (by decide +kernel)), by decide +kernel⟩
theorem im_X11_load : Cond.instanceMethod yX11_load ∈ xT := List.mem_filter.mpr ⟨List.mem_append_right _ (List.mem_of_getElem? (i := 649) (by decide +kernel)), by decide +kernel⟩
theorem se_X11_load : Cond.selects yX11_load.cls yX11_load yX11_load ∈ xT := List.mem_filter.mpr ⟨List.mem_append_right _ (List.mem_of_getElem? (i := 650) (by decide +kernel)), by decide +kernel⟩
theorem co_X11_load : Cond.code yX11_load cX11_load 2 (some .int) ∈ xT := List.mem_filter.mpr ⟨List.mem_append_right _ (List.mem_of_getElem? (i := 651) (by decide +kernel)), by decide +kernel⟩
theorem im_X8_read : Cond.instanceMethod yX8_read ∈ xT := List.mem_filter.mpr ⟨List.mem_append_right _ (List.mem_of_getElem? (i := 654) (by decide +kernel)), by decide +kernel⟩
theorem se_X8_read : Cond.selects yX8_read.cls yX8_read yX8_read ∈ xT := List.mem_filter.mpr ⟨List.mem_append_right _ (List.mem_of_getElem? (i := 655) (by decide +kernel)), by decide +kernel⟩
theorem co_X8_read : Cond.code yX8_read cX8_read 3 none ∈ xT := List.mem_filter.mpr ⟨List.mem_append_right _ (List.mem_of_getElem? (i := 656) (by decide +kernel)), by decide +kernel⟩
theorem im_X10_clear : Cond.instanceMethod yX10_clear ∈ xT := List.mem_filter.mpr ⟨List.mem_append_right _ (List.mem_of_getElem? (i := 658) (by decide +kernel)), by decide +kernel⟩
theorem se_X10_clear : Cond.selects yX10_clear.cls yX10_clear yX10_clear ∈ xT := List.mem_filter.mpr ⟨List.mem_append_right _ (List.mem_of_getElem? (i := 659) (by decide +kernel)), by decide +kernel⟩
theorem co_X10_clear : Cond.code yX10_clear cX10_clear 1 none ∈ xT := List.mem_filter.mpr ⟨List.mem_append_right _ (List.mem_of_getElem? (i := 660) (by decide +kernel)), by decide +kernel⟩
theorem im_X6_clear : Cond.instanceMethod yX6_clear ∈ xT := List.mem_filter.mpr ⟨List.mem_append_right _ (List.mem_of_getElem? (i := 662) (by decide +kernel)), by decide +kernel⟩
theorem se_X6_clear : Cond.selects yX6_clear.cls yX6_clear yX6_clear ∈ xT := List.mem_filter.mpr ⟨List.mem_append_right _ (List.mem_of_getElem? (i := 663) (by decide +kernel)), by decide +kernel⟩
theorem co_X6_clear : Cond.code yX6_clear cX6_clear 1 none ∈ xT := List.mem_filter.mpr ⟨List.mem_append_right _ (List.mem_of_getElem? (i := 664) (by decide +kernel)), by decide +kernel⟩
theorem im_X9_open : Cond.instanceMethod yX9_open ∈ xT := List.mem_filter.mpr ⟨List.mem_append_right _ (List.mem_of_getElem? (i := 666) (by decide +kernel)), by decide +kernel⟩
theorem se_X9_open : Cond.selects yX9_open.cls yX9_open yX9_open ∈ xT := List.mem_filter.mpr ⟨List.mem_append_right _ (List.mem_of_getElem? (i := 667) (by decide +kernel)), by decide +kernel⟩
theorem co_X9_open : Cond.code yX9_open cX9_open 2 none ∈ xT := List.mem_filter.mpr ⟨List.mem_append_right _ (List.mem_of_getElem? (i := 668) (by decide +kernel)), by decide +kernel⟩
theorem sm_J9_min_7cf53 : Cond.static yJ9_min_7cf53 ∈ xT := List.mem_filter.mpr ⟨List.mem_append_right _ (List.mem_of_getElem? (i := 670) (by decide +kernel)), by decide +kernel⟩
theorem co_J9_min_7cf53 : Cond.code yJ9_min_7cf53 cJ9_min_7cf53 2 (some .int) ∈ xT := List.mem_filter.mpr ⟨List.mem_append_right _ (List.mem_of_getElem? (i := 671) (by decide +kernel)), by decide +kernel⟩
theorem im_X9_moveOn : Cond.instanceMethod yX9_moveOn ∈ xT := List.mem_filter.mpr ⟨List.mem_append_right _ (List.mem_of_getElem? (i := 673) (by decide +kernel)), by decide +kernel⟩
theorem se_X9_moveOn : Cond.selects yX9_moveOn.cls yX9_moveOn yX9_moveOn ∈ xT := List.mem_filter.mpr ⟨List.mem_append_right _ (List.mem_of_getElem? (i := 674) (by decide +kernel)), by decide +kernel⟩
theorem co_X9_moveOn : Cond.code yX9_moveOn cX9_moveOn 1 none ∈ xT := List.mem_filter.mpr ⟨List.mem_append_right _ (List.mem_of_getElem? (i := 675) (by decide +kernel)), by decide +kernel⟩
theorem kc_X9_43 : Cond.constant RX9 43 (Int32.ofInt (100000)) ∈ xT := List.mem_filter.mpr ⟨List.mem_append_right _ (List.mem_of_getElem? (i := 676) (by decide +kernel)), by decide +kernel⟩
theorem im_X9_isWord : Cond.instanceMethod yX9_isWord ∈ xT := List.mem_filter.mpr ⟨List.mem_append_right _ (List.mem_of_getElem? (i := 679) (by decide +kernel)), by decide +kernel⟩
theorem se_X9_isWord : Cond.selects yX9_isWord.cls yX9_isWord yX9_isWord ∈ xT := List.mem_filter.mpr ⟨List.mem_append_right _ (List.mem_of_getElem? (i := 680) (by decide +kernel)), by decide +kernel⟩
theorem co_X9_isWord : Cond.code yX9_isWord cX9_isWord 3 (some .boolean) ∈ xT := List.mem_filter.mpr ⟨List.mem_append_right _ (List.mem_of_getElem? (i := 681) (by decide +kernel)), by decide +kernel⟩
theorem im_J0_length_8abf5 : Cond.instanceMethod yJ0_length_8abf5 ∈ xT := List.mem_filter.mpr ⟨List.mem_append_right _ (List.mem_of_getElem? (i := 683) (by decide +kernel)), by decide +kernel⟩
theorem se_J0_length_8abf5 : Cond.selects yJ0_length_8abf5.cls yJ0_length_8abf5 yJ0_length_8abf5 ∈ xT := List.mem_filter.mpr ⟨List.mem_append_right _ (List.mem_of_getElem? (i := 684) (by decide +kernel)), by decide +kernel⟩
theorem co_J0_length_8abf5 : Cond.code yJ0_length_8abf5 cJ0_length_8abf5 1 (some .int) ∈ xT := List.mem_filter.mpr ⟨List.mem_append_right _ (List.mem_of_getElem? (i := 685) (by decide +kernel)), by decide +kernel⟩
theorem im_J0_coder_7d493 : Cond.instanceMethod yJ0_coder_7d493 ∈ xT := List.mem_filter.mpr ⟨List.mem_append_right _ (List.mem_of_getElem? (i := 687) (by decide +kernel)), by decide +kernel⟩
theorem se_J0_coder_7d493 : Cond.selects yJ0_coder_7d493.cls yJ0_coder_7d493 yJ0_coder_7d493 ∈ xT := List.mem_filter.mpr ⟨List.mem_append_right _ (List.mem_of_getElem? (i := 688) (by decide +kernel)), by decide +kernel⟩
theorem co_J0_coder_7d493 : Cond.code yJ0_coder_7d493 cJ0_coder_7d493 1 (some .byte) ∈ xT := List.mem_filter.mpr ⟨List.mem_append_right _ (List.mem_of_getElem? (i := 689) (by decide +kernel)), by decide +kernel⟩
theorem im_J0_charAt_5068e : Cond.instanceMethod yJ0_charAt_5068e ∈ xT := List.mem_filter.mpr ⟨List.mem_append_right _ (List.mem_of_getElem? (i := 693) (by decide +kernel)), by decide +kernel⟩
theorem se_J0_charAt_5068e : Cond.selects yJ0_charAt_5068e.cls yJ0_charAt_5068e yJ0_charAt_5068e ∈ xT := List.mem_filter.mpr ⟨List.mem_append_right _ (List.mem_of_getElem? (i := 694) (by decide +kernel)), by decide +kernel⟩
theorem co_J0_charAt_5068e : Cond.code yJ0_charAt_5068e cJ0_charAt_5068e 2 (some .char) ∈ xT := List.mem_filter.mpr ⟨List.mem_append_right _ (List.mem_of_getElem? (i := 695) (by decide +kernel)), by decide +kernel⟩
theorem im_J0_isLatin1_aae02 : Cond.instanceMethod yJ0_isLatin1_aae02 ∈ xT := List.mem_filter.mpr ⟨List.mem_append_right _ (List.mem_of_getElem? (i := 697) (by decide +kernel)), by decide +kernel⟩
theorem se_J0_isLatin1_aae02 : Cond.selects yJ0_isLatin1_aae02.cls yJ0_isLatin1_aae02 yJ0_isLatin1_aae02 ∈ xT := List.mem_filter.mpr ⟨List.mem_append_right _ (List.mem_of_getElem? (i := 698) (by decide +kernel)), by decide +kernel⟩
theorem co_J0_isLatin1_aae02 : Cond.code yJ0_isLatin1_aae02 cJ0_isLatin1_aae02 1 (some .boolean) ∈ xT := List.mem_filter.mpr ⟨List.mem_append_right _ (List.mem_of_getElem? (i := 699) (by decide +kernel)), by decide +kernel⟩
theorem sm_J1_charAt_3b067 : Cond.static yJ1_charAt_3b067 ∈ xT := List.mem_filter.mpr ⟨List.mem_append_right _ (List.mem_of_getElem? (i := 701) (by decide +kernel)), by decide +kernel⟩
theorem co_J1_charAt_3b067 : Cond.code yJ1_charAt_3b067 cJ1_charAt_3b067 2 (some .char) ∈ xT := List.mem_filter.mpr ⟨List.mem_append_right _ (List.mem_of_getElem? (i := 702) (by decide +kernel)), by decide +kernel⟩
theorem sm_J0_checkIndex_df160 : Cond.static yJ0_checkIndex_df160 ∈ xT := List.mem_filter.mpr ⟨List.mem_append_right _ (List.mem_of_getElem? (i := 704) (by decide +kernel)), by decide +kernel⟩
theorem co_J0_checkIndex_df160 : Cond.code yJ0_checkIndex_df160 cJ0_checkIndex_df160 2 none ∈ xT := List.mem_filter.mpr ⟨List.mem_append_right _ (List.mem_of_getElem? (i := 705) (by decide +kernel)), by decide +kernel⟩
theorem sm_J3_checkIndex_8e157 : Cond.static yJ3_checkIndex_8e157 ∈ xT := List.mem_filter.mpr ⟨List.mem_append_right _ (List.mem_of_getElem? (i := 709) (by decide +kernel)), by decide +kernel⟩
theorem co_J3_checkIndex_8e157 : Cond.code yJ3_checkIndex_8e157 cJ3_checkIndex_8e157 3 (some .int) ∈ xT := List.mem_filter.mpr ⟨List.mem_append_right _ (List.mem_of_getElem? (i := 710) (by decide +kernel)), by decide +kernel⟩
theorem sm_J2_charAt_3b067 : Cond.static yJ2_charAt_3b067 ∈ xT := List.mem_filter.mpr ⟨List.mem_append_right _ (List.mem_of_getElem? (i := 712) (by decide +kernel)), by decide +kernel⟩
theorem co_J2_charAt_3b067 : Cond.code yJ2_charAt_3b067 cJ2_charAt_3b067 2 (some .char) ∈ xT := List.mem_filter.mpr ⟨List.mem_append_right _ (List.mem_of_getElem? (i := 713) (by decide +kernel)), by decide +kernel⟩
theorem sm_J2_checkIndex_2214a : Cond.static yJ2_checkIndex_2214a ∈ xT := List.mem_filter.mpr ⟨List.mem_append_right _ (List.mem_of_getElem? (i := 715) (by decide +kernel)), by decide +kernel⟩
theorem co_J2_checkIndex_2214a : Cond.code yJ2_checkIndex_2214a cJ2_checkIndex_2214a 2 none ∈ xT := List.mem_filter.mpr ⟨List.mem_append_right _ (List.mem_of_getElem? (i := 716) (by decide +kernel)), by decide +kernel⟩
theorem sm_J2_length_9d52b : Cond.static yJ2_length_9d52b ∈ xT := List.mem_filter.mpr ⟨List.mem_append_right _ (List.mem_of_getElem? (i := 718) (by decide +kernel)), by decide +kernel⟩
theorem co_J2_length_9d52b : Cond.code yJ2_length_9d52b cJ2_length_9d52b 1 (some .int) ∈ xT := List.mem_filter.mpr ⟨List.mem_append_right _ (List.mem_of_getElem? (i := 719) (by decide +kernel)), by decide +kernel⟩
theorem sm_J2_getChar_3b067 : Cond.static yJ2_getChar_3b067 ∈ xT := List.mem_filter.mpr ⟨List.mem_append_right _ (List.mem_of_getElem? (i := 722) (by decide +kernel)), by decide +kernel⟩
theorem co_J2_getChar_3b067 : Cond.code yJ2_getChar_3b067 cJ2_getChar_3b067 2 (some .char) ∈ xT := List.mem_filter.mpr ⟨List.mem_append_right _ (List.mem_of_getElem? (i := 723) (by decide +kernel)), by decide +kernel⟩
theorem im_X8_takeSign : Cond.instanceMethod yX8_takeSign ∈ xT := List.mem_filter.mpr ⟨List.mem_append_right _ (List.mem_of_getElem? (i := 733) (by decide +kernel)), by decide +kernel⟩
theorem co_X8_takeSign : Cond.code yX8_takeSign cX8_takeSign 2 none ∈ xT := List.mem_filter.mpr ⟨List.mem_append_right _ (List.mem_of_getElem? (i := 734) (by decide +kernel)), by decide +kernel⟩
theorem im_X8_fail : Cond.instanceMethod yX8_fail ∈ xT := List.mem_filter.mpr ⟨List.mem_append_right _ (List.mem_of_getElem? (i := 737) (by decide +kernel)), by decide +kernel⟩
theorem co_X8_fail : Cond.code yX8_fail cX8_fail 2 none ∈ xT := List.mem_filter.mpr ⟨List.mem_append_right _ (List.mem_of_getElem? (i := 738) (by decide +kernel)), by decide +kernel⟩
theorem im_X8_readStatement : Cond.instanceMethod yX8_readStatement ∈ xT := List.mem_filter.mpr ⟨List.mem_append_right _ (List.mem_of_getElem? (i := 741) (by decide +kernel)), by decide +kernel⟩
theorem co_X8_readStatement : Cond.code yX8_readStatement cX8_readStatement 1 none ∈ xT := List.mem_filter.mpr ⟨List.mem_append_right _ (List.mem_of_getElem? (i := 742) (by decide +kernel)), by decide +kernel⟩
theorem im_X8_readGate : Cond.instanceMethod yX8_readGate ∈ xT := List.mem_filter.mpr ⟨List.mem_append_right _ (List.mem_of_getElem? (i := 746) (by decide +kernel)), by decide +kernel⟩
theorem co_X8_readGate : Cond.code yX8_readGate cX8_readGate 4 none ∈ xT := List.mem_filter.mpr ⟨List.mem_append_right _ (List.mem_of_getElem? (i := 747) (by decide +kernel)), by decide +kernel⟩
theorem im_X8_takeCounted : Cond.instanceMethod yX8_takeCounted ∈ xT := List.mem_filter.mpr ⟨List.mem_append_right _ (List.mem_of_getElem? (i := 750) (by decide +kernel)), by decide +kernel⟩
theorem co_X8_takeCounted : Cond.code yX8_takeCounted cX8_takeCounted 3 none ∈ xT := List.mem_filter.mpr ⟨List.mem_append_right _ (List.mem_of_getElem? (i := 751) (by decide +kernel)), by decide +kernel⟩
theorem im_X8_takeNumber : Cond.instanceMethod yX8_takeNumber ∈ xT := List.mem_filter.mpr ⟨List.mem_append_right _ (List.mem_of_getElem? (i := 754) (by decide +kernel)), by decide +kernel⟩
theorem co_X8_takeNumber : Cond.code yX8_takeNumber cX8_takeNumber 4 (some .int) ∈ xT := List.mem_filter.mpr ⟨List.mem_append_right _ (List.mem_of_getElem? (i := 755) (by decide +kernel)), by decide +kernel⟩
theorem im_X8_numberStands : Cond.instanceMethod yX8_numberStands ∈ xT := List.mem_filter.mpr ⟨List.mem_append_right _ (List.mem_of_getElem? (i := 758) (by decide +kernel)), by decide +kernel⟩
theorem co_X8_numberStands : Cond.code yX8_numberStands cX8_numberStands 3 (some .boolean) ∈ xT := List.mem_filter.mpr ⟨List.mem_append_right _ (List.mem_of_getElem? (i := 759) (by decide +kernel)), by decide +kernel⟩
theorem im_X2_add : Cond.instanceMethod yX2_add ∈ xT := List.mem_filter.mpr ⟨List.mem_append_right _ (List.mem_of_getElem? (i := 761) (by decide +kernel)), by decide +kernel⟩
theorem se_X2_add : Cond.selects yX2_add.cls yX2_add yX2_add ∈ xT := List.mem_filter.mpr ⟨List.mem_append_right _ (List.mem_of_getElem? (i := 762) (by decide +kernel)), by decide +kernel⟩
theorem co_X2_add : Cond.code yX2_add cX2_add 4 none ∈ xT := List.mem_filter.mpr ⟨List.mem_append_right _ (List.mem_of_getElem? (i := 763) (by decide +kernel)), by decide +kernel⟩
theorem im_X8_readFlow : Cond.instanceMethod yX8_readFlow ∈ xT := List.mem_filter.mpr ⟨List.mem_append_right _ (List.mem_of_getElem? (i := 767) (by decide +kernel)), by decide +kernel⟩
theorem co_X8_readFlow : Cond.code yX8_readFlow cX8_readFlow 2 none ∈ xT := List.mem_filter.mpr ⟨List.mem_append_right _ (List.mem_of_getElem? (i := 768) (by decide +kernel)), by decide +kernel⟩
theorem im_X1_open : Cond.instanceMethod yX1_open ∈ xT := List.mem_filter.mpr ⟨List.mem_append_right _ (List.mem_of_getElem? (i := 770) (by decide +kernel)), by decide +kernel⟩
theorem se_X1_open : Cond.selects yX1_open.cls yX1_open yX1_open ∈ xT := List.mem_filter.mpr ⟨List.mem_append_right _ (List.mem_of_getElem? (i := 771) (by decide +kernel)), by decide +kernel⟩
theorem co_X1_open : Cond.code yX1_open cX1_open 1 none ∈ xT := List.mem_filter.mpr ⟨List.mem_append_right _ (List.mem_of_getElem? (i := 772) (by decide +kernel)), by decide +kernel⟩
theorem im_X8_readPlace : Cond.instanceMethod yX8_readPlace ∈ xT := List.mem_filter.mpr ⟨List.mem_append_right _ (List.mem_of_getElem? (i := 775) (by decide +kernel)), by decide +kernel⟩
theorem co_X8_readPlace : Cond.code yX8_readPlace cX8_readPlace 2 none ∈ xT := List.mem_filter.mpr ⟨List.mem_append_right _ (List.mem_of_getElem? (i := 776) (by decide +kernel)), by decide +kernel⟩
theorem im_X1_openRouteHas : Cond.instanceMethod yX1_openRouteHas ∈ xT := List.mem_filter.mpr ⟨List.mem_append_right _ (List.mem_of_getElem? (i := 778) (by decide +kernel)), by decide +kernel⟩
theorem se_X1_openRouteHas : Cond.selects yX1_openRouteHas.cls yX1_openRouteHas yX1_openRouteHas ∈ xT := List.mem_filter.mpr ⟨List.mem_append_right _ (List.mem_of_getElem? (i := 779) (by decide +kernel)), by decide +kernel⟩
theorem co_X1_openRouteHas : Cond.code yX1_openRouteHas cX1_openRouteHas 3 (some .boolean) ∈ xT := List.mem_filter.mpr ⟨List.mem_append_right _ (List.mem_of_getElem? (i := 780) (by decide +kernel)), by decide +kernel⟩
theorem im_X1_addPlace : Cond.instanceMethod yX1_addPlace ∈ xT := List.mem_filter.mpr ⟨List.mem_append_right _ (List.mem_of_getElem? (i := 783) (by decide +kernel)), by decide +kernel⟩
theorem se_X1_addPlace : Cond.selects yX1_addPlace.cls yX1_addPlace yX1_addPlace ∈ xT := List.mem_filter.mpr ⟨List.mem_append_right _ (List.mem_of_getElem? (i := 784) (by decide +kernel)), by decide +kernel⟩
theorem co_X1_addPlace : Cond.code yX1_addPlace cX1_addPlace 2 none ∈ xT := List.mem_filter.mpr ⟨List.mem_append_right _ (List.mem_of_getElem? (i := 785) (by decide +kernel)), by decide +kernel⟩
theorem im_X1_close : Cond.instanceMethod yX1_close ∈ xT := List.mem_filter.mpr ⟨List.mem_append_right _ (List.mem_of_getElem? (i := 788) (by decide +kernel)), by decide +kernel⟩
theorem se_X1_close : Cond.selects yX1_close.cls yX1_close yX1_close ∈ xT := List.mem_filter.mpr ⟨List.mem_append_right _ (List.mem_of_getElem? (i := 789) (by decide +kernel)), by decide +kernel⟩
theorem co_X1_close : Cond.code yX1_close cX1_close 2 none ∈ xT := List.mem_filter.mpr ⟨List.mem_append_right _ (List.mem_of_getElem? (i := 790) (by decide +kernel)), by decide +kernel⟩
theorem im_X8_readPacket : Cond.instanceMethod yX8_readPacket ∈ xT := List.mem_filter.mpr ⟨List.mem_append_right _ (List.mem_of_getElem? (i := 794) (by decide +kernel)), by decide +kernel⟩
theorem co_X8_readPacket : Cond.code yX8_readPacket cX8_readPacket 4 none ∈ xT := List.mem_filter.mpr ⟨List.mem_append_right _ (List.mem_of_getElem? (i := 795) (by decide +kernel)), by decide +kernel⟩
theorem im_X5_add : Cond.instanceMethod yX5_add ∈ xT := List.mem_filter.mpr ⟨List.mem_append_right _ (List.mem_of_getElem? (i := 797) (by decide +kernel)), by decide +kernel⟩
theorem se_X5_add : Cond.selects yX5_add.cls yX5_add yX5_add ∈ xT := List.mem_filter.mpr ⟨List.mem_append_right _ (List.mem_of_getElem? (i := 798) (by decide +kernel)), by decide +kernel⟩
theorem co_X5_add : Cond.code yX5_add cX5_add 4 none ∈ xT := List.mem_filter.mpr ⟨List.mem_append_right _ (List.mem_of_getElem? (i := 799) (by decide +kernel)), by decide +kernel⟩
theorem im_X8_readCoupon : Cond.instanceMethod yX8_readCoupon ∈ xT := List.mem_filter.mpr ⟨List.mem_append_right _ (List.mem_of_getElem? (i := 803) (by decide +kernel)), by decide +kernel⟩
theorem co_X8_readCoupon : Cond.code yX8_readCoupon cX8_readCoupon 4 none ∈ xT := List.mem_filter.mpr ⟨List.mem_append_right _ (List.mem_of_getElem? (i := 804) (by decide +kernel)), by decide +kernel⟩
theorem im_X0_add : Cond.instanceMethod yX0_add ∈ xT := List.mem_filter.mpr ⟨List.mem_append_right _ (List.mem_of_getElem? (i := 806) (by decide +kernel)), by decide +kernel⟩
theorem se_X0_add : Cond.selects yX0_add.cls yX0_add yX0_add ∈ xT := List.mem_filter.mpr ⟨List.mem_append_right _ (List.mem_of_getElem? (i := 807) (by decide +kernel)), by decide +kernel⟩
theorem co_X0_add : Cond.code yX0_add cX0_add 4 none ∈ xT := List.mem_filter.mpr ⟨List.mem_append_right _ (List.mem_of_getElem? (i := 808) (by decide +kernel)), by decide +kernel⟩
theorem im_X8_readSum : Cond.instanceMethod yX8_readSum ∈ xT := List.mem_filter.mpr ⟨List.mem_append_right _ (List.mem_of_getElem? (i := 814) (by decide +kernel)), by decide +kernel⟩
theorem co_X8_readSum : Cond.code yX8_readSum cX8_readSum 4 none ∈ xT := List.mem_filter.mpr ⟨List.mem_append_right _ (List.mem_of_getElem? (i := 815) (by decide +kernel)), by decide +kernel⟩
theorem im_X8_readTerm : Cond.instanceMethod yX8_readTerm ∈ xT := List.mem_filter.mpr ⟨List.mem_append_right _ (List.mem_of_getElem? (i := 818) (by decide +kernel)), by decide +kernel⟩
theorem co_X8_readTerm : Cond.code yX8_readTerm cX8_readTerm 4 none ∈ xT := List.mem_filter.mpr ⟨List.mem_append_right _ (List.mem_of_getElem? (i := 819) (by decide +kernel)), by decide +kernel⟩
theorem im_X8_readFactor : Cond.instanceMethod yX8_readFactor ∈ xT := List.mem_filter.mpr ⟨List.mem_append_right _ (List.mem_of_getElem? (i := 822) (by decide +kernel)), by decide +kernel⟩
theorem co_X8_readFactor : Cond.code yX8_readFactor cX8_readFactor 3 none ∈ xT := List.mem_filter.mpr ⟨List.mem_append_right _ (List.mem_of_getElem? (i := 823) (by decide +kernel)), by decide +kernel⟩
theorem im_X8_emit : Cond.instanceMethod yX8_emit ∈ xT := List.mem_filter.mpr ⟨List.mem_append_right _ (List.mem_of_getElem? (i := 829) (by decide +kernel)), by decide +kernel⟩
theorem co_X8_emit : Cond.code yX8_emit cX8_emit 2 none ∈ xT := List.mem_filter.mpr ⟨List.mem_append_right _ (List.mem_of_getElem? (i := 830) (by decide +kernel)), by decide +kernel⟩
theorem im_X8_isEither : Cond.instanceMethod yX8_isEither ∈ xT := List.mem_filter.mpr ⟨List.mem_append_right _ (List.mem_of_getElem? (i := 833) (by decide +kernel)), by decide +kernel⟩
theorem co_X8_isEither : Cond.code yX8_isEither cX8_isEither 3 (some .boolean) ∈ xT := List.mem_filter.mpr ⟨List.mem_append_right _ (List.mem_of_getElem? (i := 834) (by decide +kernel)), by decide +kernel⟩
theorem im_X10_clearLines : Cond.instanceMethod yX10_clearLines ∈ xT := List.mem_filter.mpr ⟨List.mem_append_right _ (List.mem_of_getElem? (i := 836) (by decide +kernel)), by decide +kernel⟩
theorem se_X10_clearLines : Cond.selects yX10_clearLines.cls yX10_clearLines yX10_clearLines ∈ xT := List.mem_filter.mpr ⟨List.mem_append_right _ (List.mem_of_getElem? (i := 837) (by decide +kernel)), by decide +kernel⟩
theorem co_X10_clearLines : Cond.code yX10_clearLines cX10_clearLines 3 none ∈ xT := List.mem_filter.mpr ⟨List.mem_append_right _ (List.mem_of_getElem? (i := 838) (by decide +kernel)), by decide +kernel⟩
theorem im_X4_clear : Cond.instanceMethod yX4_clear ∈ xT := List.mem_filter.mpr ⟨List.mem_append_right _ (List.mem_of_getElem? (i := 840) (by decide +kernel)), by decide +kernel⟩
theorem se_X4_clear : Cond.selects yX4_clear.cls yX4_clear yX4_clear ∈ xT := List.mem_filter.mpr ⟨List.mem_append_right _ (List.mem_of_getElem? (i := 841) (by decide +kernel)), by decide +kernel⟩
theorem co_X4_clear : Cond.code yX4_clear cX4_clear 3 none ∈ xT := List.mem_filter.mpr ⟨List.mem_append_right _ (List.mem_of_getElem? (i := 842) (by decide +kernel)), by decide +kernel⟩
theorem kl_X8_80 : Cond.classLink RX8 80 RX7 ∈ xT := List.mem_filter.mpr ⟨List.mem_append_right _ (List.mem_of_getElem? (i := 843) (by decide +kernel)), by decide +kernel⟩
theorem sm_J7_copyOf_59c91 : Cond.static yJ7_copyOf_59c91 ∈ xT := List.mem_filter.mpr ⟨List.mem_append_right _ (List.mem_of_getElem? (i := 845) (by decide +kernel)), by decide +kernel⟩
theorem co_J7_copyOf_59c91 : Cond.code yJ7_copyOf_59c91 cJ7_copyOf_59c91 3 (some (.array .int)) ∈ xT := List.mem_filter.mpr ⟨List.mem_append_right _ (List.mem_of_getElem? (i := 846) (by decide +kernel)), by decide +kernel⟩
theorem kl_J7_317 : Cond.classLink RJ7 317 "[I" ∈ xT := List.mem_filter.mpr ⟨List.mem_append_right _ (List.mem_of_getElem? (i := 853) (by decide +kernel)), by decide +kernel⟩
theorem im_X3_keep : Cond.instanceMethod yX3_keep ∈ xT := List.mem_filter.mpr ⟨List.mem_append_right _ (List.mem_of_getElem? (i := 858) (by decide +kernel)), by decide +kernel⟩
theorem se_X3_keep : Cond.selects yX3_keep.cls yX3_keep yX3_keep ∈ xT := List.mem_filter.mpr ⟨List.mem_append_right _ (List.mem_of_getElem? (i := 859) (by decide +kernel)), by decide +kernel⟩
theorem co_X3_keep : Cond.code yX3_keep cX3_keep 3 none ∈ xT := List.mem_filter.mpr ⟨List.mem_append_right _ (List.mem_of_getElem? (i := 860) (by decide +kernel)), by decide +kernel⟩
theorem sm_L_state : Cond.static yL_state ∈ xT := List.mem_filter.mpr ⟨List.mem_append_right _ (List.mem_of_getElem? (i := 864) (by decide +kernel)), by decide +kernel⟩
theorem sm_L_gate : Cond.static yL_gate ∈ xT := List.mem_filter.mpr ⟨List.mem_append_right _ (List.mem_of_getElem? (i := 868) (by decide +kernel)), by decide +kernel⟩
theorem kl_L_22 : Cond.classLink RL 22 "java/lang/IndexOutOfBoundsException" ∈ xT := List.mem_filter.mpr ⟨List.mem_append_right _ (List.mem_of_getElem? (i := 870) (by decide +kernel)), by decide +kernel⟩
theorem im_X11_gate : Cond.instanceMethod yX11_gate ∈ xT := List.mem_filter.mpr ⟨List.mem_append_right _ (List.mem_of_getElem? (i := 872) (by decide +kernel)), by decide +kernel⟩
theorem se_X11_gate : Cond.selects yX11_gate.cls yX11_gate yX11_gate ∈ xT := List.mem_filter.mpr ⟨List.mem_append_right _ (List.mem_of_getElem? (i := 873) (by decide +kernel)), by decide +kernel⟩
theorem co_X11_gate : Cond.code yX11_gate cX11_gate 3 (some .int) ∈ xT := List.mem_filter.mpr ⟨List.mem_append_right _ (List.mem_of_getElem? (i := 874) (by decide +kernel)), by decide +kernel⟩
theorem sm_L_flow : Cond.static yL_flow ∈ xT := List.mem_filter.mpr ⟨List.mem_append_right _ (List.mem_of_getElem? (i := 876) (by decide +kernel)), by decide +kernel⟩
theorem sm_L_route : Cond.static yL_route ∈ xT := List.mem_filter.mpr ⟨List.mem_append_right _ (List.mem_of_getElem? (i := 880) (by decide +kernel)), by decide +kernel⟩
theorem kl_L_30 : Cond.classLink RL 30 "java/util/NoSuchElementException" ∈ xT := List.mem_filter.mpr ⟨List.mem_append_right _ (List.mem_of_getElem? (i := 882) (by decide +kernel)), by decide +kernel⟩
theorem im_X11_route : Cond.instanceMethod yX11_route ∈ xT := List.mem_filter.mpr ⟨List.mem_append_right _ (List.mem_of_getElem? (i := 884) (by decide +kernel)), by decide +kernel⟩
theorem se_X11_route : Cond.selects yX11_route.cls yX11_route yX11_route ∈ xT := List.mem_filter.mpr ⟨List.mem_append_right _ (List.mem_of_getElem? (i := 885) (by decide +kernel)), by decide +kernel⟩
theorem co_X11_route : Cond.code yX11_route cX11_route 4 (some .int) ∈ xT := List.mem_filter.mpr ⟨List.mem_append_right _ (List.mem_of_getElem? (i := 886) (by decide +kernel)), by decide +kernel⟩
theorem kl_X11_160 : Cond.classLink RX11 160 "java/util/NoSuchElementException" ∈ xT := List.mem_filter.mpr ⟨List.mem_append_right _ (List.mem_of_getElem? (i := 888) (by decide +kernel)), by decide +kernel⟩
theorem sm_L_tokens : Cond.static yL_tokens ∈ xT := List.mem_filter.mpr ⟨List.mem_append_right _ (List.mem_of_getElem? (i := 905) (by decide +kernel)), by decide +kernel⟩
theorem sm_L_queue : Cond.static yL_queue ∈ xT := List.mem_filter.mpr ⟨List.mem_append_right _ (List.mem_of_getElem? (i := 909) (by decide +kernel)), by decide +kernel⟩
theorem sm_L_packet : Cond.static yL_packet ∈ xT := List.mem_filter.mpr ⟨List.mem_append_right _ (List.mem_of_getElem? (i := 913) (by decide +kernel)), by decide +kernel⟩
theorem sm_L_coupon : Cond.static yL_coupon ∈ xT := List.mem_filter.mpr ⟨List.mem_append_right _ (List.mem_of_getElem? (i := 917) (by decide +kernel)), by decide +kernel⟩
theorem sm_L_loadOver : Cond.static yL_loadOver ∈ xT := List.mem_filter.mpr ⟨List.mem_append_right _ (List.mem_of_getElem? (i := 921) (by decide +kernel)), by decide +kernel⟩
theorem im_X11_loadOver : Cond.instanceMethod yX11_loadOver ∈ xT := List.mem_filter.mpr ⟨List.mem_append_right _ (List.mem_of_getElem? (i := 924) (by decide +kernel)), by decide +kernel⟩
theorem se_X11_loadOver : Cond.selects yX11_loadOver.cls yX11_loadOver yX11_loadOver ∈ xT := List.mem_filter.mpr ⟨List.mem_append_right _ (List.mem_of_getElem? (i := 925) (by decide +kernel)), by decide +kernel⟩
theorem co_X11_loadOver : Cond.code yX11_loadOver cX11_loadOver 4 (some .int) ∈ xT := List.mem_filter.mpr ⟨List.mem_append_right _ (List.mem_of_getElem? (i := 926) (by decide +kernel)), by decide +kernel⟩
theorem im_X11_checkRange : Cond.instanceMethod yX11_checkRange ∈ xT := List.mem_filter.mpr ⟨List.mem_append_right _ (List.mem_of_getElem? (i := 929) (by decide +kernel)), by decide +kernel⟩
theorem co_X11_checkRange : Cond.code yX11_checkRange cX11_checkRange 4 none ∈ xT := List.mem_filter.mpr ⟨List.mem_append_right _ (List.mem_of_getElem? (i := 930) (by decide +kernel)), by decide +kernel⟩
theorem im_X6_greatestLoad : Cond.instanceMethod yX6_greatestLoad ∈ xT := List.mem_filter.mpr ⟨List.mem_append_right _ (List.mem_of_getElem? (i := 933) (by decide +kernel)), by decide +kernel⟩
theorem se_X6_greatestLoad : Cond.selects yX6_greatestLoad.cls yX6_greatestLoad yX6_greatestLoad ∈ xT := List.mem_filter.mpr ⟨List.mem_append_right _ (List.mem_of_getElem? (i := 934) (by decide +kernel)), by decide +kernel⟩
theorem co_X6_greatestLoad : Cond.code yX6_greatestLoad cX6_greatestLoad 6 (some .int) ∈ xT := List.mem_filter.mpr ⟨List.mem_append_right _ (List.mem_of_getElem? (i := 935) (by decide +kernel)), by decide +kernel⟩
theorem im_X6_loadFrom : Cond.instanceMethod yX6_loadFrom ∈ xT := List.mem_filter.mpr ⟨List.mem_append_right _ (List.mem_of_getElem? (i := 938) (by decide +kernel)), by decide +kernel⟩
theorem co_X6_loadFrom : Cond.code yX6_loadFrom cX6_loadFrom 7 (some .int) ∈ xT := List.mem_filter.mpr ⟨List.mem_append_right _ (List.mem_of_getElem? (i := 939) (by decide +kernel)), by decide +kernel⟩
theorem sm_J9_max_7cf53 : Cond.static yJ9_max_7cf53 ∈ xT := List.mem_filter.mpr ⟨List.mem_append_right _ (List.mem_of_getElem? (i := 941) (by decide +kernel)), by decide +kernel⟩
theorem co_J9_max_7cf53 : Cond.code yJ9_max_7cf53 cJ9_max_7cf53 2 (some .int) ∈ xT := List.mem_filter.mpr ⟨List.mem_append_right _ (List.mem_of_getElem? (i := 942) (by decide +kernel)), by decide +kernel⟩
theorem sm_L_curve : Cond.static yL_curve ∈ xT := List.mem_filter.mpr ⟨List.mem_append_right _ (List.mem_of_getElem? (i := 944) (by decide +kernel)), by decide +kernel⟩
theorem im_X11_curve : Cond.instanceMethod yX11_curve ∈ xT := List.mem_filter.mpr ⟨List.mem_append_right _ (List.mem_of_getElem? (i := 947) (by decide +kernel)), by decide +kernel⟩
theorem se_X11_curve : Cond.selects yX11_curve.cls yX11_curve yX11_curve ∈ xT := List.mem_filter.mpr ⟨List.mem_append_right _ (List.mem_of_getElem? (i := 948) (by decide +kernel)), by decide +kernel⟩
theorem co_X11_curve : Cond.code yX11_curve cX11_curve 3 (some .int) ∈ xT := List.mem_filter.mpr ⟨List.mem_append_right _ (List.mem_of_getElem? (i := 949) (by decide +kernel)), by decide +kernel⟩
theorem sm_L_endsAt : Cond.static yL_endsAt ∈ xT := List.mem_filter.mpr ⟨List.mem_append_right _ (List.mem_of_getElem? (i := 951) (by decide +kernel)), by decide +kernel⟩
theorem im_X11_endsAt : Cond.instanceMethod yX11_endsAt ∈ xT := List.mem_filter.mpr ⟨List.mem_append_right _ (List.mem_of_getElem? (i := 954) (by decide +kernel)), by decide +kernel⟩
theorem se_X11_endsAt : Cond.selects yX11_endsAt.cls yX11_endsAt yX11_endsAt ∈ xT := List.mem_filter.mpr ⟨List.mem_append_right _ (List.mem_of_getElem? (i := 955) (by decide +kernel)), by decide +kernel⟩
theorem co_X11_endsAt : Cond.code yX11_endsAt cX11_endsAt 2 (some .int) ∈ xT := List.mem_filter.mpr ⟨List.mem_append_right _ (List.mem_of_getElem? (i := 956) (by decide +kernel)), by decide +kernel⟩
theorem im_X5_hasEnded : Cond.instanceMethod yX5_hasEnded ∈ xT := List.mem_filter.mpr ⟨List.mem_append_right _ (List.mem_of_getElem? (i := 958) (by decide +kernel)), by decide +kernel⟩
theorem se_X5_hasEnded : Cond.selects yX5_hasEnded.cls yX5_hasEnded yX5_hasEnded ∈ xT := List.mem_filter.mpr ⟨List.mem_append_right _ (List.mem_of_getElem? (i := 959) (by decide +kernel)), by decide +kernel⟩
theorem co_X5_hasEnded : Cond.code yX5_hasEnded cX5_hasEnded 2 (some .boolean) ∈ xT := List.mem_filter.mpr ⟨List.mem_append_right _ (List.mem_of_getElem? (i := 960) (by decide +kernel)), by decide +kernel⟩
theorem im_X10_advance : Cond.instanceMethod yX10_advance ∈ xT := List.mem_filter.mpr ⟨List.mem_append_right _ (List.mem_of_getElem? (i := 962) (by decide +kernel)), by decide +kernel⟩
theorem se_X10_advance : Cond.selects yX10_advance.cls yX10_advance yX10_advance ∈ xT := List.mem_filter.mpr ⟨List.mem_append_right _ (List.mem_of_getElem? (i := 963) (by decide +kernel)), by decide +kernel⟩
theorem co_X10_advance : Cond.code yX10_advance cX10_advance 5 none ∈ xT := List.mem_filter.mpr ⟨List.mem_append_right _ (List.mem_of_getElem? (i := 964) (by decide +kernel)), by decide +kernel⟩
theorem im_X10_quietTicks : Cond.instanceMethod yX10_quietTicks ∈ xT := List.mem_filter.mpr ⟨List.mem_append_right _ (List.mem_of_getElem? (i := 968) (by decide +kernel)), by decide +kernel⟩
theorem co_X10_quietTicks : Cond.code yX10_quietTicks cX10_quietTicks 5 (some .int) ∈ xT := List.mem_filter.mpr ⟨List.mem_append_right _ (List.mem_of_getElem? (i := 969) (by decide +kernel)), by decide +kernel⟩
theorem im_X10_ticksBeforePassage : Cond.instanceMethod yX10_ticksBeforePassage ∈ xT := List.mem_filter.mpr ⟨List.mem_append_right _ (List.mem_of_getElem? (i := 973) (by decide +kernel)), by decide +kernel⟩
theorem co_X10_ticksBeforePassage : Cond.code yX10_ticksBeforePassage cX10_ticksBeforePassage 10 (some .int) ∈ xT := List.mem_filter.mpr ⟨List.mem_append_right _ (List.mem_of_getElem? (i := 974) (by decide +kernel)), by decide +kernel⟩
theorem im_X4_firstIn : Cond.instanceMethod yX4_firstIn ∈ xT := List.mem_filter.mpr ⟨List.mem_append_right _ (List.mem_of_getElem? (i := 976) (by decide +kernel)), by decide +kernel⟩
theorem se_X4_firstIn : Cond.selects yX4_firstIn.cls yX4_firstIn yX4_firstIn ∈ xT := List.mem_filter.mpr ⟨List.mem_append_right _ (List.mem_of_getElem? (i := 977) (by decide +kernel)), by decide +kernel⟩
theorem co_X4_firstIn : Cond.code yX4_firstIn cX4_firstIn 3 (some .int) ∈ xT := List.mem_filter.mpr ⟨List.mem_append_right _ (List.mem_of_getElem? (i := 978) (by decide +kernel)), by decide +kernel⟩
theorem im_X2_ticksBefore : Cond.instanceMethod yX2_ticksBefore ∈ xT := List.mem_filter.mpr ⟨List.mem_append_right _ (List.mem_of_getElem? (i := 980) (by decide +kernel)), by decide +kernel⟩
theorem se_X2_ticksBefore : Cond.selects yX2_ticksBefore.cls yX2_ticksBefore yX2_ticksBefore ∈ xT := List.mem_filter.mpr ⟨List.mem_append_right _ (List.mem_of_getElem? (i := 981) (by decide +kernel)), by decide +kernel⟩
theorem co_X2_ticksBefore : Cond.code yX2_ticksBefore cX2_ticksBefore 4 (some .int) ∈ xT := List.mem_filter.mpr ⟨List.mem_append_right _ (List.mem_of_getElem? (i := 982) (by decide +kernel)), by decide +kernel⟩
theorem kc_X2_29 : Cond.constant RX2 29 (Int32.ofInt (1000000)) ∈ xT := List.mem_filter.mpr ⟨List.mem_append_right _ (List.mem_of_getElem? (i := 983) (by decide +kernel)), by decide +kernel⟩
theorem im_X10_rest : Cond.instanceMethod yX10_rest ∈ xT := List.mem_filter.mpr ⟨List.mem_append_right _ (List.mem_of_getElem? (i := 988) (by decide +kernel)), by decide +kernel⟩
theorem co_X10_rest : Cond.code yX10_rest cX10_rest 3 none ∈ xT := List.mem_filter.mpr ⟨List.mem_append_right _ (List.mem_of_getElem? (i := 989) (by decide +kernel)), by decide +kernel⟩
theorem im_X10_refill : Cond.instanceMethod yX10_refill ∈ xT := List.mem_filter.mpr ⟨List.mem_append_right _ (List.mem_of_getElem? (i := 992) (by decide +kernel)), by decide +kernel⟩
theorem co_X10_refill : Cond.code yX10_refill cX10_refill 6 none ∈ xT := List.mem_filter.mpr ⟨List.mem_append_right _ (List.mem_of_getElem? (i := 993) (by decide +kernel)), by decide +kernel⟩
theorem im_X10_noteLack : Cond.instanceMethod yX10_noteLack ∈ xT := List.mem_filter.mpr ⟨List.mem_append_right _ (List.mem_of_getElem? (i := 996) (by decide +kernel)), by decide +kernel⟩
theorem co_X10_noteLack : Cond.code yX10_noteLack cX10_noteLack 7 none ∈ xT := List.mem_filter.mpr ⟨List.mem_append_right _ (List.mem_of_getElem? (i := 997) (by decide +kernel)), by decide +kernel⟩
theorem im_X10_tick : Cond.instanceMethod yX10_tick ∈ xT := List.mem_filter.mpr ⟨List.mem_append_right _ (List.mem_of_getElem? (i := 1000) (by decide +kernel)), by decide +kernel⟩
theorem co_X10_tick : Cond.code yX10_tick cX10_tick 4 none ∈ xT := List.mem_filter.mpr ⟨List.mem_append_right _ (List.mem_of_getElem? (i := 1001) (by decide +kernel)), by decide +kernel⟩
theorem im_X0_removeEnding : Cond.instanceMethod yX0_removeEnding ∈ xT := List.mem_filter.mpr ⟨List.mem_append_right _ (List.mem_of_getElem? (i := 1003) (by decide +kernel)), by decide +kernel⟩
theorem se_X0_removeEnding : Cond.selects yX0_removeEnding.cls yX0_removeEnding yX0_removeEnding ∈ xT := List.mem_filter.mpr ⟨List.mem_append_right _ (List.mem_of_getElem? (i := 1004) (by decide +kernel)), by decide +kernel⟩
theorem co_X0_removeEnding : Cond.code yX0_removeEnding cX0_removeEnding 4 (some .int) ∈ xT := List.mem_filter.mpr ⟨List.mem_append_right _ (List.mem_of_getElem? (i := 1005) (by decide +kernel)), by decide +kernel⟩
theorem im_X0_removeAt : Cond.instanceMethod yX0_removeAt ∈ xT := List.mem_filter.mpr ⟨List.mem_append_right _ (List.mem_of_getElem? (i := 1008) (by decide +kernel)), by decide +kernel⟩
theorem co_X0_removeAt : Cond.code yX0_removeAt cX0_removeAt 3 none ∈ xT := List.mem_filter.mpr ⟨List.mem_append_right _ (List.mem_of_getElem? (i := 1009) (by decide +kernel)), by decide +kernel⟩
theorem im_X10_arrive : Cond.instanceMethod yX10_arrive ∈ xT := List.mem_filter.mpr ⟨List.mem_append_right _ (List.mem_of_getElem? (i := 1012) (by decide +kernel)), by decide +kernel⟩
theorem co_X10_arrive : Cond.code yX10_arrive cX10_arrive 5 none ∈ xT := List.mem_filter.mpr ⟨List.mem_append_right _ (List.mem_of_getElem? (i := 1013) (by decide +kernel)), by decide +kernel⟩
theorem im_X4_join : Cond.instanceMethod yX4_join ∈ xT := List.mem_filter.mpr ⟨List.mem_append_right _ (List.mem_of_getElem? (i := 1015) (by decide +kernel)), by decide +kernel⟩
theorem se_X4_join : Cond.selects yX4_join.cls yX4_join yX4_join ∈ xT := List.mem_filter.mpr ⟨List.mem_append_right _ (List.mem_of_getElem? (i := 1016) (by decide +kernel)), by decide +kernel⟩
theorem co_X4_join : Cond.code yX4_join cX4_join 4 none ∈ xT := List.mem_filter.mpr ⟨List.mem_append_right _ (List.mem_of_getElem? (i := 1017) (by decide +kernel)), by decide +kernel⟩
theorem im_X10_refund : Cond.instanceMethod yX10_refund ∈ xT := List.mem_filter.mpr ⟨List.mem_append_right _ (List.mem_of_getElem? (i := 1020) (by decide +kernel)), by decide +kernel⟩
theorem co_X10_refund : Cond.code yX10_refund cX10_refund 4 none ∈ xT := List.mem_filter.mpr ⟨List.mem_append_right _ (List.mem_of_getElem? (i := 1021) (by decide +kernel)), by decide +kernel⟩
theorem im_X10_openGate : Cond.instanceMethod yX10_openGate ∈ xT := List.mem_filter.mpr ⟨List.mem_append_right _ (List.mem_of_getElem? (i := 1025) (by decide +kernel)), by decide +kernel⟩
theorem co_X10_openGate : Cond.code yX10_openGate cX10_openGate 8 none ∈ xT := List.mem_filter.mpr ⟨List.mem_append_right _ (List.mem_of_getElem? (i := 1026) (by decide +kernel)), by decide +kernel⟩
theorem im_X4_leave : Cond.instanceMethod yX4_leave ∈ xT := List.mem_filter.mpr ⟨List.mem_append_right _ (List.mem_of_getElem? (i := 1028) (by decide +kernel)), by decide +kernel⟩
theorem se_X4_leave : Cond.selects yX4_leave.cls yX4_leave yX4_leave ∈ xT := List.mem_filter.mpr ⟨List.mem_append_right _ (List.mem_of_getElem? (i := 1029) (by decide +kernel)), by decide +kernel⟩
theorem co_X4_leave : Cond.code yX4_leave cX4_leave 3 none ∈ xT := List.mem_filter.mpr ⟨List.mem_append_right _ (List.mem_of_getElem? (i := 1030) (by decide +kernel)), by decide +kernel⟩
theorem im_X10_passGate : Cond.instanceMethod yX10_passGate ∈ xT := List.mem_filter.mpr ⟨List.mem_append_right _ (List.mem_of_getElem? (i := 1034) (by decide +kernel)), by decide +kernel⟩
theorem co_X10_passGate : Cond.code yX10_passGate cX10_passGate 6 none ∈ xT := List.mem_filter.mpr ⟨List.mem_append_right _ (List.mem_of_getElem? (i := 1035) (by decide +kernel)), by decide +kernel⟩
theorem im_X0_spend : Cond.instanceMethod yX0_spend ∈ xT := List.mem_filter.mpr ⟨List.mem_append_right _ (List.mem_of_getElem? (i := 1037) (by decide +kernel)), by decide +kernel⟩
theorem se_X0_spend : Cond.selects yX0_spend.cls yX0_spend yX0_spend ∈ xT := List.mem_filter.mpr ⟨List.mem_append_right _ (List.mem_of_getElem? (i := 1038) (by decide +kernel)), by decide +kernel⟩
theorem co_X0_spend : Cond.code yX0_spend cX0_spend 6 none ∈ xT := List.mem_filter.mpr ⟨List.mem_append_right _ (List.mem_of_getElem? (i := 1039) (by decide +kernel)), by decide +kernel⟩
theorem im_X0_firstToEnd : Cond.instanceMethod yX0_firstToEnd ∈ xT := List.mem_filter.mpr ⟨List.mem_append_right _ (List.mem_of_getElem? (i := 1042) (by decide +kernel)), by decide +kernel⟩
theorem co_X0_firstToEnd : Cond.code yX0_firstToEnd cX0_firstToEnd 4 (some .int) ∈ xT := List.mem_filter.mpr ⟨List.mem_append_right _ (List.mem_of_getElem? (i := 1043) (by decide +kernel)), by decide +kernel⟩
theorem im_X7_valueFor : Cond.instanceMethod yX7_valueFor ∈ xT := List.mem_filter.mpr ⟨List.mem_append_right _ (List.mem_of_getElem? (i := 1045) (by decide +kernel)), by decide +kernel⟩
theorem se_X7_valueFor : Cond.selects yX7_valueFor.cls yX7_valueFor yX7_valueFor ∈ xT := List.mem_filter.mpr ⟨List.mem_append_right _ (List.mem_of_getElem? (i := 1046) (by decide +kernel)), by decide +kernel⟩
theorem co_X7_valueFor : Cond.code yX7_valueFor cX7_valueFor 8 (some .int) ∈ xT := List.mem_filter.mpr ⟨List.mem_append_right _ (List.mem_of_getElem? (i := 1047) (by decide +kernel)), by decide +kernel⟩
theorem sm_X7_combine : Cond.static yX7_combine ∈ xT := List.mem_filter.mpr ⟨List.mem_append_right _ (List.mem_of_getElem? (i := 1049) (by decide +kernel)), by decide +kernel⟩
theorem co_X7_combine : Cond.code yX7_combine cX7_combine 7 (some .int) ∈ xT := List.mem_filter.mpr ⟨List.mem_append_right _ (List.mem_of_getElem? (i := 1050) (by decide +kernel)), by decide +kernel⟩
theorem kc_X7_31 : Cond.constantLong RX7 31 (Int64.ofInt (-1000000)) ∈ xT := List.mem_filter.mpr ⟨List.mem_append_right _ (List.mem_of_getElem? (i := 1051) (by decide +kernel)), by decide +kernel⟩
theorem kc_X7_33 : Cond.constantLong RX7 33 (Int64.ofInt (1000000)) ∈ xT := List.mem_filter.mpr ⟨List.mem_append_right _ (List.mem_of_getElem? (i := 1052) (by decide +kernel)), by decide +kernel⟩
theorem sm_J9_min_f86c9 : Cond.static yJ9_min_f86c9 ∈ xT := List.mem_filter.mpr ⟨List.mem_append_right _ (List.mem_of_getElem? (i := 1054) (by decide +kernel)), by decide +kernel⟩
theorem co_J9_min_f86c9 : Cond.code yJ9_min_f86c9 cJ9_min_f86c9 4 (some .long) ∈ xT := List.mem_filter.mpr ⟨List.mem_append_right _ (List.mem_of_getElem? (i := 1055) (by decide +kernel)), by decide +kernel⟩
theorem sm_J9_max_f86c9 : Cond.static yJ9_max_f86c9 ∈ xT := List.mem_filter.mpr ⟨List.mem_append_right _ (List.mem_of_getElem? (i := 1057) (by decide +kernel)), by decide +kernel⟩
theorem co_J9_max_f86c9 : Cond.code yJ9_max_f86c9 cJ9_max_f86c9 4 (some .long) ∈ xT := List.mem_filter.mpr ⟨List.mem_append_right _ (List.mem_of_getElem? (i := 1058) (by decide +kernel)), by decide +kernel⟩
theorem im_X6_add : Cond.instanceMethod yX6_add ∈ xT := List.mem_filter.mpr ⟨List.mem_append_right _ (List.mem_of_getElem? (i := 1062) (by decide +kernel)), by decide +kernel⟩
theorem se_X6_add : Cond.selects yX6_add.cls yX6_add yX6_add ∈ xT := List.mem_filter.mpr ⟨List.mem_append_right _ (List.mem_of_getElem? (i := 1063) (by decide +kernel)), by decide +kernel⟩
theorem co_X6_add : Cond.code yX6_add cX6_add 7 none ∈ xT := List.mem_filter.mpr ⟨List.mem_append_right _ (List.mem_of_getElem? (i := 1064) (by decide +kernel)), by decide +kernel⟩
theorem sm_L_billAfter : Cond.static yL_billAfter ∈ xT := List.mem_filter.mpr ⟨List.mem_append_right _ (List.mem_of_getElem? (i := 1066) (by decide +kernel)), by decide +kernel⟩
theorem im_X11_billAfter : Cond.instanceMethod yX11_billAfter ∈ xT := List.mem_filter.mpr ⟨List.mem_append_right _ (List.mem_of_getElem? (i := 1069) (by decide +kernel)), by decide +kernel⟩
theorem se_X11_billAfter : Cond.selects yX11_billAfter.cls yX11_billAfter yX11_billAfter ∈ xT := List.mem_filter.mpr ⟨List.mem_append_right _ (List.mem_of_getElem? (i := 1070) (by decide +kernel)), by decide +kernel⟩
theorem co_X11_billAfter : Cond.code yX11_billAfter cX11_billAfter 3 (some .int) ∈ xT := List.mem_filter.mpr ⟨List.mem_append_right _ (List.mem_of_getElem? (i := 1071) (by decide +kernel)), by decide +kernel⟩
theorem sm_L_help : Cond.static yL_help ∈ xT := List.mem_filter.mpr ⟨List.mem_append_right _ (List.mem_of_getElem? (i := 1073) (by decide +kernel)), by decide +kernel⟩
theorem im_X11_help : Cond.instanceMethod yX11_help ∈ xT := List.mem_filter.mpr ⟨List.mem_append_right _ (List.mem_of_getElem? (i := 1076) (by decide +kernel)), by decide +kernel⟩
theorem se_X11_help : Cond.selects yX11_help.cls yX11_help yX11_help ∈ xT := List.mem_filter.mpr ⟨List.mem_append_right _ (List.mem_of_getElem? (i := 1077) (by decide +kernel)), by decide +kernel⟩
theorem co_X11_help : Cond.code yX11_help cX11_help 6 (some .int) ∈ xT := List.mem_filter.mpr ⟨List.mem_append_right _ (List.mem_of_getElem? (i := 1078) (by decide +kernel)), by decide +kernel⟩
theorem sm_L_pass : Cond.static yL_pass ∈ xT := List.mem_filter.mpr ⟨List.mem_append_right _ (List.mem_of_getElem? (i := 1082) (by decide +kernel)), by decide +kernel⟩
theorem im_X11_pass : Cond.instanceMethod yX11_pass ∈ xT := List.mem_filter.mpr ⟨List.mem_append_right _ (List.mem_of_getElem? (i := 1085) (by decide +kernel)), by decide +kernel⟩
theorem se_X11_pass : Cond.selects yX11_pass.cls yX11_pass yX11_pass ∈ xT := List.mem_filter.mpr ⟨List.mem_append_right _ (List.mem_of_getElem? (i := 1086) (by decide +kernel)), by decide +kernel⟩
theorem co_X11_pass : Cond.code yX11_pass cX11_pass 3 (some .int) ∈ xT := List.mem_filter.mpr ⟨List.mem_append_right _ (List.mem_of_getElem? (i := 1087) (by decide +kernel)), by decide +kernel⟩
theorem sm_L_forward : Cond.static yL_forward ∈ xT := List.mem_filter.mpr ⟨List.mem_append_right _ (List.mem_of_getElem? (i := 1089) (by decide +kernel)), by decide +kernel⟩
theorem im_X11_forward : Cond.instanceMethod yX11_forward ∈ xT := List.mem_filter.mpr ⟨List.mem_append_right _ (List.mem_of_getElem? (i := 1092) (by decide +kernel)), by decide +kernel⟩
theorem se_X11_forward : Cond.selects yX11_forward.cls yX11_forward yX11_forward ∈ xT := List.mem_filter.mpr ⟨List.mem_append_right _ (List.mem_of_getElem? (i := 1093) (by decide +kernel)), by decide +kernel⟩
theorem co_X11_forward : Cond.code yX11_forward cX11_forward 5 (some .int) ∈ xT := List.mem_filter.mpr ⟨List.mem_append_right _ (List.mem_of_getElem? (i := 1094) (by decide +kernel)), by decide +kernel⟩
theorem sm_L_grant : Cond.static yL_grant ∈ xT := List.mem_filter.mpr ⟨List.mem_append_right _ (List.mem_of_getElem? (i := 1096) (by decide +kernel)), by decide +kernel⟩
theorem kl_L_69 : Cond.classLink RL 69 "java/lang/IllegalStateException" ∈ xT := List.mem_filter.mpr ⟨List.mem_append_right _ (List.mem_of_getElem? (i := 1098) (by decide +kernel)), by decide +kernel⟩
theorem im_X11_grant : Cond.instanceMethod yX11_grant ∈ xT := List.mem_filter.mpr ⟨List.mem_append_right _ (List.mem_of_getElem? (i := 1100) (by decide +kernel)), by decide +kernel⟩
theorem se_X11_grant : Cond.selects yX11_grant.cls yX11_grant yX11_grant ∈ xT := List.mem_filter.mpr ⟨List.mem_append_right _ (List.mem_of_getElem? (i := 1101) (by decide +kernel)), by decide +kernel⟩
theorem co_X11_grant : Cond.code yX11_grant cX11_grant 4 (some .int) ∈ xT := List.mem_filter.mpr ⟨List.mem_append_right _ (List.mem_of_getElem? (i := 1102) (by decide +kernel)), by decide +kernel⟩
theorem kl_X11_250 : Cond.classLink RX11 250 "java/lang/IllegalStateException" ∈ xT := List.mem_filter.mpr ⟨List.mem_append_right _ (List.mem_of_getElem? (i := 1103) (by decide +kernel)), by decide +kernel⟩
theorem sm_L_send : Cond.static yL_send ∈ xT := List.mem_filter.mpr ⟨List.mem_append_right _ (List.mem_of_getElem? (i := 1120) (by decide +kernel)), by decide +kernel⟩
theorem im_X11_send : Cond.instanceMethod yX11_send ∈ xT := List.mem_filter.mpr ⟨List.mem_append_right _ (List.mem_of_getElem? (i := 1123) (by decide +kernel)), by decide +kernel⟩
theorem se_X11_send : Cond.selects yX11_send.cls yX11_send yX11_send ∈ xT := List.mem_filter.mpr ⟨List.mem_append_right _ (List.mem_of_getElem? (i := 1124) (by decide +kernel)), by decide +kernel⟩
theorem co_X11_send : Cond.code yX11_send cX11_send 3 (some .int) ∈ xT := List.mem_filter.mpr ⟨List.mem_append_right _ (List.mem_of_getElem? (i := 1125) (by decide +kernel)), by decide +kernel⟩
theorem sm_L_setThrift : Cond.static yL_setThrift ∈ xT := List.mem_filter.mpr ⟨List.mem_append_right _ (List.mem_of_getElem? (i := 1129) (by decide +kernel)), by decide +kernel⟩
theorem im_X11_setThrift : Cond.instanceMethod yX11_setThrift ∈ xT := List.mem_filter.mpr ⟨List.mem_append_right _ (List.mem_of_getElem? (i := 1132) (by decide +kernel)), by decide +kernel⟩
theorem se_X11_setThrift : Cond.selects yX11_setThrift.cls yX11_setThrift yX11_setThrift ∈ xT := List.mem_filter.mpr ⟨List.mem_append_right _ (List.mem_of_getElem? (i := 1133) (by decide +kernel)), by decide +kernel⟩
theorem co_X11_setThrift : Cond.code yX11_setThrift cX11_setThrift 4 (some .int) ∈ xT := List.mem_filter.mpr ⟨List.mem_append_right _ (List.mem_of_getElem? (i := 1134) (by decide +kernel)), by decide +kernel⟩
theorem kl_L_78 : Cond.classLink RL 78 RX12 ∈ xT := List.mem_filter.mpr ⟨List.mem_append_right _ (List.mem_of_getElem? (i := 1135) (by decide +kernel)), by decide +kernel⟩
theorem is_X12 : Cond.instantiable RX12 18 ∈ xT := List.mem_filter.mpr ⟨List.mem_append_right _ (List.mem_of_getElem? (i := 1136) (by decide +kernel)), by decide +kernel⟩
theorem im_X12_init : Cond.instanceMethod yX12_init ∈ xT := List.mem_filter.mpr ⟨List.mem_append_right _ (List.mem_of_getElem? (i := 1138) (by decide +kernel)), by decide +kernel⟩
theorem co_X12_init : Cond.code yX12_init cX12_init 1 none ∈ xT := List.mem_filter.mpr ⟨List.mem_append_right _ (List.mem_of_getElem? (i := 1139) (by decide +kernel)), by decide +kernel⟩
theorem kl_X12_29 : Cond.classLink RX12 29 "[[I" ∈ xT := List.mem_filter.mpr ⟨List.mem_append_right _ (List.mem_of_getElem? (i := 1141) (by decide +kernel)), by decide +kernel⟩
theorem sm_X12_layUsual : Cond.static yX12_layUsual ∈ xT := List.mem_filter.mpr ⟨List.mem_append_right _ (List.mem_of_getElem? (i := 1144) (by decide +kernel)), by decide +kernel⟩
theorem co_X12_layUsual : Cond.code yX12_layUsual cX12_layUsual 2 none ∈ xT := List.mem_filter.mpr ⟨List.mem_append_right _ (List.mem_of_getElem? (i := 1145) (by decide +kernel)), by decide +kernel⟩
theorem ac_long : Cond.arrayClass .long ∈ xT := List.mem_filter.mpr ⟨List.mem_append_right _ (List.mem_of_getElem? (i := 1201) (by decide +kernel)), by decide +kernel⟩
theorem im_X12_thrown : Cond.instanceMethod yX12_thrown ∈ xT := List.mem_filter.mpr ⟨List.mem_append_right _ (List.mem_of_getElem? (i := 1203) (by decide +kernel)), by decide +kernel⟩
theorem se_X12_thrown : Cond.selects yX12_thrown.cls yX12_thrown yX12_thrown ∈ xT := List.mem_filter.mpr ⟨List.mem_append_right _ (List.mem_of_getElem? (i := 1204) (by decide +kernel)), by decide +kernel⟩
theorem co_X12_thrown : Cond.code yX12_thrown cX12_thrown 1 (some .int) ∈ xT := List.mem_filter.mpr ⟨List.mem_append_right _ (List.mem_of_getElem? (i := 1205) (by decide +kernel)), by decide +kernel⟩
theorem im_X12_append : Cond.instanceMethod yX12_append ∈ xT := List.mem_filter.mpr ⟨List.mem_append_right _ (List.mem_of_getElem? (i := 1207) (by decide +kernel)), by decide +kernel⟩
theorem se_X12_append : Cond.selects yX12_append.cls yX12_append yX12_append ∈ xT := List.mem_filter.mpr ⟨List.mem_append_right _ (List.mem_of_getElem? (i := 1208) (by decide +kernel)), by decide +kernel⟩
theorem co_X12_append : Cond.code yX12_append cX12_append 8 (some .int) ∈ xT := List.mem_filter.mpr ⟨List.mem_append_right _ (List.mem_of_getElem? (i := 1209) (by decide +kernel)), by decide +kernel⟩
theorem im_X12_load : Cond.instanceMethod yX12_load ∈ xT := List.mem_filter.mpr ⟨List.mem_append_right _ (List.mem_of_getElem? (i := 1211) (by decide +kernel)), by decide +kernel⟩
theorem se_X12_load : Cond.selects yX12_load.cls yX12_load yX12_load ∈ xT := List.mem_filter.mpr ⟨List.mem_append_right _ (List.mem_of_getElem? (i := 1212) (by decide +kernel)), by decide +kernel⟩
theorem co_X12_load : Cond.code yX12_load cX12_load 4 (some .int) ∈ xT := List.mem_filter.mpr ⟨List.mem_append_right _ (List.mem_of_getElem? (i := 1213) (by decide +kernel)), by decide +kernel⟩
theorem sm_X12_in : Cond.static yX12_in ∈ xT := List.mem_filter.mpr ⟨List.mem_append_right _ (List.mem_of_getElem? (i := 1215) (by decide +kernel)), by decide +kernel⟩
theorem co_X12_in : Cond.code yX12_in cX12_in 3 (some .boolean) ∈ xT := List.mem_filter.mpr ⟨List.mem_append_right _ (List.mem_of_getElem? (i := 1216) (by decide +kernel)), by decide +kernel⟩
theorem im_X12_fails : Cond.instanceMethod yX12_fails ∈ xT := List.mem_filter.mpr ⟨List.mem_append_right _ (List.mem_of_getElem? (i := 1219) (by decide +kernel)), by decide +kernel⟩
theorem co_X12_fails : Cond.code yX12_fails cX12_fails 3 (some .boolean) ∈ xT := List.mem_filter.mpr ⟨List.mem_append_right _ (List.mem_of_getElem? (i := 1220) (by decide +kernel)), by decide +kernel⟩
theorem im_X12_takeWord : Cond.instanceMethod yX12_takeWord ∈ xT := List.mem_filter.mpr ⟨List.mem_append_right _ (List.mem_of_getElem? (i := 1224) (by decide +kernel)), by decide +kernel⟩
theorem co_X12_takeWord : Cond.code yX12_takeWord cX12_takeWord 3 (some .boolean) ∈ xT := List.mem_filter.mpr ⟨List.mem_append_right _ (List.mem_of_getElem? (i := 1225) (by decide +kernel)), by decide +kernel⟩
theorem im_X12_isGood : Cond.instanceMethod yX12_isGood ∈ xT := List.mem_filter.mpr ⟨List.mem_append_right _ (List.mem_of_getElem? (i := 1228) (by decide +kernel)), by decide +kernel⟩
theorem co_X12_isGood : Cond.code yX12_isGood cX12_isGood 1 (some .boolean) ∈ xT := List.mem_filter.mpr ⟨List.mem_append_right _ (List.mem_of_getElem? (i := 1229) (by decide +kernel)), by decide +kernel⟩
theorem im_X12_next : Cond.instanceMethod yX12_next ∈ xT := List.mem_filter.mpr ⟨List.mem_append_right _ (List.mem_of_getElem? (i := 1232) (by decide +kernel)), by decide +kernel⟩
theorem co_X12_next : Cond.code yX12_next cX12_next 1 (some .int) ∈ xT := List.mem_filter.mpr ⟨List.mem_append_right _ (List.mem_of_getElem? (i := 1233) (by decide +kernel)), by decide +kernel⟩
theorem im_X12_byteAt : Cond.instanceMethod yX12_byteAt ∈ xT := List.mem_filter.mpr ⟨List.mem_append_right _ (List.mem_of_getElem? (i := 1236) (by decide +kernel)), by decide +kernel⟩
theorem co_X12_byteAt : Cond.code yX12_byteAt cX12_byteAt 2 (some .int) ∈ xT := List.mem_filter.mpr ⟨List.mem_append_right _ (List.mem_of_getElem? (i := 1237) (by decide +kernel)), by decide +kernel⟩
theorem im_X12_report : Cond.instanceMethod yX12_report ∈ xT := List.mem_filter.mpr ⟨List.mem_append_right _ (List.mem_of_getElem? (i := 1242) (by decide +kernel)), by decide +kernel⟩
theorem co_X12_report : Cond.code yX12_report cX12_report 3 none ∈ xT := List.mem_filter.mpr ⟨List.mem_append_right _ (List.mem_of_getElem? (i := 1243) (by decide +kernel)), by decide +kernel⟩
theorem im_X12_expect : Cond.instanceMethod yX12_expect ∈ xT := List.mem_filter.mpr ⟨List.mem_append_right _ (List.mem_of_getElem? (i := 1246) (by decide +kernel)), by decide +kernel⟩
theorem co_X12_expect : Cond.code yX12_expect cX12_expect 2 none ∈ xT := List.mem_filter.mpr ⟨List.mem_append_right _ (List.mem_of_getElem? (i := 1247) (by decide +kernel)), by decide +kernel⟩
theorem im_X12_statement : Cond.instanceMethod yX12_statement ∈ xT := List.mem_filter.mpr ⟨List.mem_append_right _ (List.mem_of_getElem? (i := 1250) (by decide +kernel)), by decide +kernel⟩
theorem co_X12_statement : Cond.code yX12_statement cX12_statement 2 none ∈ xT := List.mem_filter.mpr ⟨List.mem_append_right _ (List.mem_of_getElem? (i := 1251) (by decide +kernel)), by decide +kernel⟩
theorem im_X12_readGate : Cond.instanceMethod yX12_readGate ∈ xT := List.mem_filter.mpr ⟨List.mem_append_right _ (List.mem_of_getElem? (i := 1255) (by decide +kernel)), by decide +kernel⟩
theorem co_X12_readGate : Cond.code yX12_readGate cX12_readGate 6 none ∈ xT := List.mem_filter.mpr ⟨List.mem_append_right _ (List.mem_of_getElem? (i := 1256) (by decide +kernel)), by decide +kernel⟩
theorem im_X12_number : Cond.instanceMethod yX12_number ∈ xT := List.mem_filter.mpr ⟨List.mem_append_right _ (List.mem_of_getElem? (i := 1259) (by decide +kernel)), by decide +kernel⟩
theorem co_X12_number : Cond.code yX12_number cX12_number 4 (some .int) ∈ xT := List.mem_filter.mpr ⟨List.mem_append_right _ (List.mem_of_getElem? (i := 1260) (by decide +kernel)), by decide +kernel⟩
theorem sm_X12_isDigit : Cond.static yX12_isDigit ∈ xT := List.mem_filter.mpr ⟨List.mem_append_right _ (List.mem_of_getElem? (i := 1262) (by decide +kernel)), by decide +kernel⟩
theorem co_X12_isDigit : Cond.code yX12_isDigit cX12_isDigit 1 (some .boolean) ∈ xT := List.mem_filter.mpr ⟨List.mem_append_right _ (List.mem_of_getElem? (i := 1263) (by decide +kernel)), by decide +kernel⟩
theorem kc_X12_96 : Cond.constant RX12 96 (Int32.ofInt (1000000)) ∈ xT := List.mem_filter.mpr ⟨List.mem_append_right _ (List.mem_of_getElem? (i := 1264) (by decide +kernel)), by decide +kernel⟩
theorem sm_X12_min : Cond.static yX12_min ∈ xT := List.mem_filter.mpr ⟨List.mem_append_right _ (List.mem_of_getElem? (i := 1266) (by decide +kernel)), by decide +kernel⟩
theorem co_X12_min : Cond.code yX12_min cX12_min 2 (some .int) ∈ xT := List.mem_filter.mpr ⟨List.mem_append_right _ (List.mem_of_getElem? (i := 1267) (by decide +kernel)), by decide +kernel⟩
theorem im_X12_readFlow : Cond.instanceMethod yX12_readFlow ∈ xT := List.mem_filter.mpr ⟨List.mem_append_right _ (List.mem_of_getElem? (i := 1271) (by decide +kernel)), by decide +kernel⟩
theorem co_X12_readFlow : Cond.code yX12_readFlow cX12_readFlow 5 none ∈ xT := List.mem_filter.mpr ⟨List.mem_append_right _ (List.mem_of_getElem? (i := 1272) (by decide +kernel)), by decide +kernel⟩
theorem im_X12_isOnWay : Cond.instanceMethod yX12_isOnWay ∈ xT := List.mem_filter.mpr ⟨List.mem_append_right _ (List.mem_of_getElem? (i := 1275) (by decide +kernel)), by decide +kernel⟩
theorem co_X12_isOnWay : Cond.code yX12_isOnWay cX12_isOnWay 6 (some .boolean) ∈ xT := List.mem_filter.mpr ⟨List.mem_append_right _ (List.mem_of_getElem? (i := 1276) (by decide +kernel)), by decide +kernel⟩
theorem im_X12_readPacket : Cond.instanceMethod yX12_readPacket ∈ xT := List.mem_filter.mpr ⟨List.mem_append_right _ (List.mem_of_getElem? (i := 1281) (by decide +kernel)), by decide +kernel⟩
theorem co_X12_readPacket : Cond.code yX12_readPacket cX12_readPacket 5 none ∈ xT := List.mem_filter.mpr ⟨List.mem_append_right _ (List.mem_of_getElem? (i := 1282) (by decide +kernel)), by decide +kernel⟩
theorem sm_X12_putPacket : Cond.static yX12_putPacket ∈ xT := List.mem_filter.mpr ⟨List.mem_append_right _ (List.mem_of_getElem? (i := 1284) (by decide +kernel)), by decide +kernel⟩
theorem co_X12_putPacket : Cond.code yX12_putPacket cX12_putPacket 6 none ∈ xT := List.mem_filter.mpr ⟨List.mem_append_right _ (List.mem_of_getElem? (i := 1285) (by decide +kernel)), by decide +kernel⟩
theorem im_X12_readCoupon : Cond.instanceMethod yX12_readCoupon ∈ xT := List.mem_filter.mpr ⟨List.mem_append_right _ (List.mem_of_getElem? (i := 1289) (by decide +kernel)), by decide +kernel⟩
theorem co_X12_readCoupon : Cond.code yX12_readCoupon cX12_readCoupon 5 none ∈ xT := List.mem_filter.mpr ⟨List.mem_append_right _ (List.mem_of_getElem? (i := 1290) (by decide +kernel)), by decide +kernel⟩
theorem sm_X12_putCoupon : Cond.static yX12_putCoupon ∈ xT := List.mem_filter.mpr ⟨List.mem_append_right _ (List.mem_of_getElem? (i := 1292) (by decide +kernel)), by decide +kernel⟩
theorem co_X12_putCoupon : Cond.code yX12_putCoupon cX12_putCoupon 5 none ∈ xT := List.mem_filter.mpr ⟨List.mem_append_right _ (List.mem_of_getElem? (i := 1293) (by decide +kernel)), by decide +kernel⟩
theorem im_X12_once : Cond.instanceMethod yX12_once ∈ xT := List.mem_filter.mpr ⟨List.mem_append_right _ (List.mem_of_getElem? (i := 1297) (by decide +kernel)), by decide +kernel⟩
theorem co_X12_once : Cond.code yX12_once cX12_once 3 none ∈ xT := List.mem_filter.mpr ⟨List.mem_append_right _ (List.mem_of_getElem? (i := 1298) (by decide +kernel)), by decide +kernel⟩
theorem im_X12_sum : Cond.instanceMethod yX12_sum ∈ xT := List.mem_filter.mpr ⟨List.mem_append_right _ (List.mem_of_getElem? (i := 1303) (by decide +kernel)), by decide +kernel⟩
theorem co_X12_sum : Cond.code yX12_sum cX12_sum 2 none ∈ xT := List.mem_filter.mpr ⟨List.mem_append_right _ (List.mem_of_getElem? (i := 1304) (by decide +kernel)), by decide +kernel⟩
theorem im_X12_term : Cond.instanceMethod yX12_term ∈ xT := List.mem_filter.mpr ⟨List.mem_append_right _ (List.mem_of_getElem? (i := 1307) (by decide +kernel)), by decide +kernel⟩
theorem co_X12_term : Cond.code yX12_term cX12_term 2 none ∈ xT := List.mem_filter.mpr ⟨List.mem_append_right _ (List.mem_of_getElem? (i := 1308) (by decide +kernel)), by decide +kernel⟩
theorem im_X12_factor : Cond.instanceMethod yX12_factor ∈ xT := List.mem_filter.mpr ⟨List.mem_append_right _ (List.mem_of_getElem? (i := 1311) (by decide +kernel)), by decide +kernel⟩
theorem co_X12_factor : Cond.code yX12_factor cX12_factor 4 none ∈ xT := List.mem_filter.mpr ⟨List.mem_append_right _ (List.mem_of_getElem? (i := 1312) (by decide +kernel)), by decide +kernel⟩
theorem im_X12_emit : Cond.instanceMethod yX12_emit ∈ xT := List.mem_filter.mpr ⟨List.mem_append_right _ (List.mem_of_getElem? (i := 1318) (by decide +kernel)), by decide +kernel⟩
theorem co_X12_emit : Cond.code yX12_emit cX12_emit 2 none ∈ xT := List.mem_filter.mpr ⟨List.mem_append_right _ (List.mem_of_getElem? (i := 1319) (by decide +kernel)), by decide +kernel⟩
theorem sm_X12_pairAt : Cond.static yX12_pairAt ∈ xT := List.mem_filter.mpr ⟨List.mem_append_right _ (List.mem_of_getElem? (i := 1321) (by decide +kernel)), by decide +kernel⟩
theorem co_X12_pairAt : Cond.code yX12_pairAt cX12_pairAt 2 (some .int) ∈ xT := List.mem_filter.mpr ⟨List.mem_append_right _ (List.mem_of_getElem? (i := 1322) (by decide +kernel)), by decide +kernel⟩
theorem im_X12_remember : Cond.instanceMethod yX12_remember ∈ xT := List.mem_filter.mpr ⟨List.mem_append_right _ (List.mem_of_getElem? (i := 1325) (by decide +kernel)), by decide +kernel⟩
theorem co_X12_remember : Cond.code yX12_remember cX12_remember 2 none ∈ xT := List.mem_filter.mpr ⟨List.mem_append_right _ (List.mem_of_getElem? (i := 1326) (by decide +kernel)), by decide +kernel⟩
theorem sm_X12_copy : Cond.static yX12_copy ∈ xT := List.mem_filter.mpr ⟨List.mem_append_right _ (List.mem_of_getElem? (i := 1328) (by decide +kernel)), by decide +kernel⟩
theorem co_X12_copy : Cond.code yX12_copy cX12_copy 4 none ∈ xT := List.mem_filter.mpr ⟨List.mem_append_right _ (List.mem_of_getElem? (i := 1329) (by decide +kernel)), by decide +kernel⟩
theorem im_X12_errorOffset : Cond.instanceMethod yX12_errorOffset ∈ xT := List.mem_filter.mpr ⟨List.mem_append_right _ (List.mem_of_getElem? (i := 1331) (by decide +kernel)), by decide +kernel⟩
theorem se_X12_errorOffset : Cond.selects yX12_errorOffset.cls yX12_errorOffset yX12_errorOffset ∈ xT := List.mem_filter.mpr ⟨List.mem_append_right _ (List.mem_of_getElem? (i := 1332) (by decide +kernel)), by decide +kernel⟩
theorem co_X12_errorOffset : Cond.code yX12_errorOffset cX12_errorOffset 1 (some .int) ∈ xT := List.mem_filter.mpr ⟨List.mem_append_right _ (List.mem_of_getElem? (i := 1333) (by decide +kernel)), by decide +kernel⟩
theorem im_X12_state : Cond.instanceMethod yX12_state ∈ xT := List.mem_filter.mpr ⟨List.mem_append_right _ (List.mem_of_getElem? (i := 1335) (by decide +kernel)), by decide +kernel⟩
theorem se_X12_state : Cond.selects yX12_state.cls yX12_state yX12_state ∈ xT := List.mem_filter.mpr ⟨List.mem_append_right _ (List.mem_of_getElem? (i := 1336) (by decide +kernel)), by decide +kernel⟩
theorem co_X12_state : Cond.code yX12_state cX12_state 2 (some .int) ∈ xT := List.mem_filter.mpr ⟨List.mem_append_right _ (List.mem_of_getElem? (i := 1337) (by decide +kernel)), by decide +kernel⟩
theorem im_X12_gate : Cond.instanceMethod yX12_gate ∈ xT := List.mem_filter.mpr ⟨List.mem_append_right _ (List.mem_of_getElem? (i := 1339) (by decide +kernel)), by decide +kernel⟩
theorem se_X12_gate : Cond.selects yX12_gate.cls yX12_gate yX12_gate ∈ xT := List.mem_filter.mpr ⟨List.mem_append_right _ (List.mem_of_getElem? (i := 1340) (by decide +kernel)), by decide +kernel⟩
theorem co_X12_gate : Cond.code yX12_gate cX12_gate 3 (some .int) ∈ xT := List.mem_filter.mpr ⟨List.mem_append_right _ (List.mem_of_getElem? (i := 1341) (by decide +kernel)), by decide +kernel⟩
theorem im_X12_noGate : Cond.instanceMethod yX12_noGate ∈ xT := List.mem_filter.mpr ⟨List.mem_append_right _ (List.mem_of_getElem? (i := 1344) (by decide +kernel)), by decide +kernel⟩
theorem co_X12_noGate : Cond.code yX12_noGate cX12_noGate 2 (some .boolean) ∈ xT := List.mem_filter.mpr ⟨List.mem_append_right _ (List.mem_of_getElem? (i := 1345) (by decide +kernel)), by decide +kernel⟩
theorem im_X12_noNumber : Cond.instanceMethod yX12_noNumber ∈ xT := List.mem_filter.mpr ⟨List.mem_append_right _ (List.mem_of_getElem? (i := 1348) (by decide +kernel)), by decide +kernel⟩
theorem co_X12_noNumber : Cond.code yX12_noNumber cX12_noNumber 4 (some .boolean) ∈ xT := List.mem_filter.mpr ⟨List.mem_append_right _ (List.mem_of_getElem? (i := 1349) (by decide +kernel)), by decide +kernel⟩
theorem im_X12_ofGate : Cond.instanceMethod yX12_ofGate ∈ xT := List.mem_filter.mpr ⟨List.mem_append_right _ (List.mem_of_getElem? (i := 1352) (by decide +kernel)), by decide +kernel⟩
theorem co_X12_ofGate : Cond.code yX12_ofGate cX12_ofGate 3 (some .int) ∈ xT := List.mem_filter.mpr ⟨List.mem_append_right _ (List.mem_of_getElem? (i := 1353) (by decide +kernel)), by decide +kernel⟩
theorem im_X12_flow : Cond.instanceMethod yX12_flow ∈ xT := List.mem_filter.mpr ⟨List.mem_append_right _ (List.mem_of_getElem? (i := 1355) (by decide +kernel)), by decide +kernel⟩
theorem se_X12_flow : Cond.selects yX12_flow.cls yX12_flow yX12_flow ∈ xT := List.mem_filter.mpr ⟨List.mem_append_right _ (List.mem_of_getElem? (i := 1356) (by decide +kernel)), by decide +kernel⟩
theorem co_X12_flow : Cond.code yX12_flow cX12_flow 3 (some .int) ∈ xT := List.mem_filter.mpr ⟨List.mem_append_right _ (List.mem_of_getElem? (i := 1357) (by decide +kernel)), by decide +kernel⟩
theorem im_X12_noFlow : Cond.instanceMethod yX12_noFlow ∈ xT := List.mem_filter.mpr ⟨List.mem_append_right _ (List.mem_of_getElem? (i := 1360) (by decide +kernel)), by decide +kernel⟩
theorem co_X12_noFlow : Cond.code yX12_noFlow cX12_noFlow 2 (some .boolean) ∈ xT := List.mem_filter.mpr ⟨List.mem_append_right _ (List.mem_of_getElem? (i := 1361) (by decide +kernel)), by decide +kernel⟩
theorem im_X12_toldFlow : Cond.instanceMethod yX12_toldFlow ∈ xT := List.mem_filter.mpr ⟨List.mem_append_right _ (List.mem_of_getElem? (i := 1364) (by decide +kernel)), by decide +kernel⟩
theorem co_X12_toldFlow : Cond.code yX12_toldFlow cX12_toldFlow 3 (some .int) ∈ xT := List.mem_filter.mpr ⟨List.mem_append_right _ (List.mem_of_getElem? (i := 1365) (by decide +kernel)), by decide +kernel⟩
theorem im_X12_ofFlow : Cond.instanceMethod yX12_ofFlow ∈ xT := List.mem_filter.mpr ⟨List.mem_append_right _ (List.mem_of_getElem? (i := 1368) (by decide +kernel)), by decide +kernel⟩
theorem co_X12_ofFlow : Cond.code yX12_ofFlow cX12_ofFlow 3 (some .int) ∈ xT := List.mem_filter.mpr ⟨List.mem_append_right _ (List.mem_of_getElem? (i := 1369) (by decide +kernel)), by decide +kernel⟩
theorem im_X12_couponsOf : Cond.instanceMethod yX12_couponsOf ∈ xT := List.mem_filter.mpr ⟨List.mem_append_right _ (List.mem_of_getElem? (i := 1372) (by decide +kernel)), by decide +kernel⟩
theorem co_X12_couponsOf : Cond.code yX12_couponsOf cX12_couponsOf 4 (some .int) ∈ xT := List.mem_filter.mpr ⟨List.mem_append_right _ (List.mem_of_getElem? (i := 1373) (by decide +kernel)), by decide +kernel⟩
theorem sm_X12_couponAt : Cond.static yX12_couponAt ∈ xT := List.mem_filter.mpr ⟨List.mem_append_right _ (List.mem_of_getElem? (i := 1375) (by decide +kernel)), by decide +kernel⟩
theorem co_X12_couponAt : Cond.code yX12_couponAt cX12_couponAt 1 (some .int) ∈ xT := List.mem_filter.mpr ⟨List.mem_append_right _ (List.mem_of_getElem? (i := 1376) (by decide +kernel)), by decide +kernel⟩
theorem im_X12_valuesOf : Cond.instanceMethod yX12_valuesOf ∈ xT := List.mem_filter.mpr ⟨List.mem_append_right _ (List.mem_of_getElem? (i := 1379) (by decide +kernel)), by decide +kernel⟩
theorem co_X12_valuesOf : Cond.code yX12_valuesOf cX12_valuesOf 4 (some .int) ∈ xT := List.mem_filter.mpr ⟨List.mem_append_right _ (List.mem_of_getElem? (i := 1380) (by decide +kernel)), by decide +kernel⟩
theorem im_X12_route : Cond.instanceMethod yX12_route ∈ xT := List.mem_filter.mpr ⟨List.mem_append_right _ (List.mem_of_getElem? (i := 1382) (by decide +kernel)), by decide +kernel⟩
theorem se_X12_route : Cond.selects yX12_route.cls yX12_route yX12_route ∈ xT := List.mem_filter.mpr ⟨List.mem_append_right _ (List.mem_of_getElem? (i := 1383) (by decide +kernel)), by decide +kernel⟩
theorem co_X12_route : Cond.code yX12_route cX12_route 3 (some .int) ∈ xT := List.mem_filter.mpr ⟨List.mem_append_right _ (List.mem_of_getElem? (i := 1384) (by decide +kernel)), by decide +kernel⟩
theorem im_X12_tokens : Cond.instanceMethod yX12_tokens ∈ xT := List.mem_filter.mpr ⟨List.mem_append_right _ (List.mem_of_getElem? (i := 1386) (by decide +kernel)), by decide +kernel⟩
theorem se_X12_tokens : Cond.selects yX12_tokens.cls yX12_tokens yX12_tokens ∈ xT := List.mem_filter.mpr ⟨List.mem_append_right _ (List.mem_of_getElem? (i := 1387) (by decide +kernel)), by decide +kernel⟩
theorem co_X12_tokens : Cond.code yX12_tokens cX12_tokens 3 (some .int) ∈ xT := List.mem_filter.mpr ⟨List.mem_append_right _ (List.mem_of_getElem? (i := 1388) (by decide +kernel)), by decide +kernel⟩
theorem im_X12_queue : Cond.instanceMethod yX12_queue ∈ xT := List.mem_filter.mpr ⟨List.mem_append_right _ (List.mem_of_getElem? (i := 1390) (by decide +kernel)), by decide +kernel⟩
theorem se_X12_queue : Cond.selects yX12_queue.cls yX12_queue yX12_queue ∈ xT := List.mem_filter.mpr ⟨List.mem_append_right _ (List.mem_of_getElem? (i := 1391) (by decide +kernel)), by decide +kernel⟩
theorem co_X12_queue : Cond.code yX12_queue cX12_queue 3 (some .int) ∈ xT := List.mem_filter.mpr ⟨List.mem_append_right _ (List.mem_of_getElem? (i := 1392) (by decide +kernel)), by decide +kernel⟩
theorem im_X12_packet : Cond.instanceMethod yX12_packet ∈ xT := List.mem_filter.mpr ⟨List.mem_append_right _ (List.mem_of_getElem? (i := 1394) (by decide +kernel)), by decide +kernel⟩
theorem se_X12_packet : Cond.selects yX12_packet.cls yX12_packet yX12_packet ∈ xT := List.mem_filter.mpr ⟨List.mem_append_right _ (List.mem_of_getElem? (i := 1395) (by decide +kernel)), by decide +kernel⟩
theorem co_X12_packet : Cond.code yX12_packet cX12_packet 3 (some .int) ∈ xT := List.mem_filter.mpr ⟨List.mem_append_right _ (List.mem_of_getElem? (i := 1396) (by decide +kernel)), by decide +kernel⟩
theorem im_X12_noPacket : Cond.instanceMethod yX12_noPacket ∈ xT := List.mem_filter.mpr ⟨List.mem_append_right _ (List.mem_of_getElem? (i := 1399) (by decide +kernel)), by decide +kernel⟩
theorem co_X12_noPacket : Cond.code yX12_noPacket cX12_noPacket 2 (some .boolean) ∈ xT := List.mem_filter.mpr ⟨List.mem_append_right _ (List.mem_of_getElem? (i := 1400) (by decide +kernel)), by decide +kernel⟩
theorem im_X12_toldPacket : Cond.instanceMethod yX12_toldPacket ∈ xT := List.mem_filter.mpr ⟨List.mem_append_right _ (List.mem_of_getElem? (i := 1403) (by decide +kernel)), by decide +kernel⟩
theorem co_X12_toldPacket : Cond.code yX12_toldPacket cX12_toldPacket 4 (some .int) ∈ xT := List.mem_filter.mpr ⟨List.mem_append_right _ (List.mem_of_getElem? (i := 1404) (by decide +kernel)), by decide +kernel⟩
theorem sm_X12_packetAt : Cond.static yX12_packetAt ∈ xT := List.mem_filter.mpr ⟨List.mem_append_right _ (List.mem_of_getElem? (i := 1406) (by decide +kernel)), by decide +kernel⟩
theorem co_X12_packetAt : Cond.code yX12_packetAt cX12_packetAt 1 (some .int) ∈ xT := List.mem_filter.mpr ⟨List.mem_append_right _ (List.mem_of_getElem? (i := 1407) (by decide +kernel)), by decide +kernel⟩
theorem im_X12_gateOf : Cond.instanceMethod yX12_gateOf ∈ xT := List.mem_filter.mpr ⟨List.mem_append_right _ (List.mem_of_getElem? (i := 1410) (by decide +kernel)), by decide +kernel⟩
theorem co_X12_gateOf : Cond.code yX12_gateOf cX12_gateOf 2 (some .int) ∈ xT := List.mem_filter.mpr ⟨List.mem_append_right _ (List.mem_of_getElem? (i := 1411) (by decide +kernel)), by decide +kernel⟩
theorem im_X12_coupon : Cond.instanceMethod yX12_coupon ∈ xT := List.mem_filter.mpr ⟨List.mem_append_right _ (List.mem_of_getElem? (i := 1413) (by decide +kernel)), by decide +kernel⟩
theorem se_X12_coupon : Cond.selects yX12_coupon.cls yX12_coupon yX12_coupon ∈ xT := List.mem_filter.mpr ⟨List.mem_append_right _ (List.mem_of_getElem? (i := 1414) (by decide +kernel)), by decide +kernel⟩
theorem co_X12_coupon : Cond.code yX12_coupon cX12_coupon 3 (some .int) ∈ xT := List.mem_filter.mpr ⟨List.mem_append_right _ (List.mem_of_getElem? (i := 1415) (by decide +kernel)), by decide +kernel⟩
theorem im_X12_noCoupon : Cond.instanceMethod yX12_noCoupon ∈ xT := List.mem_filter.mpr ⟨List.mem_append_right _ (List.mem_of_getElem? (i := 1418) (by decide +kernel)), by decide +kernel⟩
theorem co_X12_noCoupon : Cond.code yX12_noCoupon cX12_noCoupon 2 (some .boolean) ∈ xT := List.mem_filter.mpr ⟨List.mem_append_right _ (List.mem_of_getElem? (i := 1419) (by decide +kernel)), by decide +kernel⟩
theorem im_X12_loadOver : Cond.instanceMethod yX12_loadOver ∈ xT := List.mem_filter.mpr ⟨List.mem_append_right _ (List.mem_of_getElem? (i := 1421) (by decide +kernel)), by decide +kernel⟩
theorem se_X12_loadOver : Cond.selects yX12_loadOver.cls yX12_loadOver yX12_loadOver ∈ xT := List.mem_filter.mpr ⟨List.mem_append_right _ (List.mem_of_getElem? (i := 1422) (by decide +kernel)), by decide +kernel⟩
theorem co_X12_loadOver : Cond.code yX12_loadOver cX12_loadOver 8 (some .int) ∈ xT := List.mem_filter.mpr ⟨List.mem_append_right _ (List.mem_of_getElem? (i := 1423) (by decide +kernel)), by decide +kernel⟩
theorem im_X12_isKept : Cond.instanceMethod yX12_isKept ∈ xT := List.mem_filter.mpr ⟨List.mem_append_right _ (List.mem_of_getElem? (i := 1426) (by decide +kernel)), by decide +kernel⟩
theorem co_X12_isKept : Cond.code yX12_isKept cX12_isKept 4 (some .boolean) ∈ xT := List.mem_filter.mpr ⟨List.mem_append_right _ (List.mem_of_getElem? (i := 1427) (by decide +kernel)), by decide +kernel⟩
theorem im_X12_kept : Cond.instanceMethod yX12_kept ∈ xT := List.mem_filter.mpr ⟨List.mem_append_right _ (List.mem_of_getElem? (i := 1430) (by decide +kernel)), by decide +kernel⟩
theorem co_X12_kept : Cond.code yX12_kept cX12_kept 3 (some .int) ∈ xT := List.mem_filter.mpr ⟨List.mem_append_right _ (List.mem_of_getElem? (i := 1431) (by decide +kernel)), by decide +kernel⟩
theorem im_X12_curve : Cond.instanceMethod yX12_curve ∈ xT := List.mem_filter.mpr ⟨List.mem_append_right _ (List.mem_of_getElem? (i := 1433) (by decide +kernel)), by decide +kernel⟩
theorem se_X12_curve : Cond.selects yX12_curve.cls yX12_curve yX12_curve ∈ xT := List.mem_filter.mpr ⟨List.mem_append_right _ (List.mem_of_getElem? (i := 1434) (by decide +kernel)), by decide +kernel⟩
theorem co_X12_curve : Cond.code yX12_curve cX12_curve 3 (some .int) ∈ xT := List.mem_filter.mpr ⟨List.mem_append_right _ (List.mem_of_getElem? (i := 1435) (by decide +kernel)), by decide +kernel⟩
theorem im_X12_endsAt : Cond.instanceMethod yX12_endsAt ∈ xT := List.mem_filter.mpr ⟨List.mem_append_right _ (List.mem_of_getElem? (i := 1437) (by decide +kernel)), by decide +kernel⟩
theorem se_X12_endsAt : Cond.selects yX12_endsAt.cls yX12_endsAt yX12_endsAt ∈ xT := List.mem_filter.mpr ⟨List.mem_append_right _ (List.mem_of_getElem? (i := 1438) (by decide +kernel)), by decide +kernel⟩
theorem co_X12_endsAt : Cond.code yX12_endsAt cX12_endsAt 3 (some .int) ∈ xT := List.mem_filter.mpr ⟨List.mem_append_right _ (List.mem_of_getElem? (i := 1439) (by decide +kernel)), by decide +kernel⟩
theorem im_X12_endOf : Cond.instanceMethod yX12_endOf ∈ xT := List.mem_filter.mpr ⟨List.mem_append_right _ (List.mem_of_getElem? (i := 1442) (by decide +kernel)), by decide +kernel⟩
theorem co_X12_endOf : Cond.code yX12_endOf cX12_endOf 4 (some .int) ∈ xT := List.mem_filter.mpr ⟨List.mem_append_right _ (List.mem_of_getElem? (i := 1443) (by decide +kernel)), by decide +kernel⟩
theorem im_X12_hasEnded : Cond.instanceMethod yX12_hasEnded ∈ xT := List.mem_filter.mpr ⟨List.mem_append_right _ (List.mem_of_getElem? (i := 1446) (by decide +kernel)), by decide +kernel⟩
theorem co_X12_hasEnded : Cond.code yX12_hasEnded cX12_hasEnded 2 (some .boolean) ∈ xT := List.mem_filter.mpr ⟨List.mem_append_right _ (List.mem_of_getElem? (i := 1447) (by decide +kernel)), by decide +kernel⟩
theorem im_X12_tick : Cond.instanceMethod yX12_tick ∈ xT := List.mem_filter.mpr ⟨List.mem_append_right _ (List.mem_of_getElem? (i := 1450) (by decide +kernel)), by decide +kernel⟩
theorem co_X12_tick : Cond.code yX12_tick cX12_tick 4 none ∈ xT := List.mem_filter.mpr ⟨List.mem_append_right _ (List.mem_of_getElem? (i := 1451) (by decide +kernel)), by decide +kernel⟩
theorem im_X12_dropCoupon : Cond.instanceMethod yX12_dropCoupon ∈ xT := List.mem_filter.mpr ⟨List.mem_append_right _ (List.mem_of_getElem? (i := 1454) (by decide +kernel)), by decide +kernel⟩
theorem co_X12_dropCoupon : Cond.code yX12_dropCoupon cX12_dropCoupon 3 none ∈ xT := List.mem_filter.mpr ⟨List.mem_append_right _ (List.mem_of_getElem? (i := 1455) (by decide +kernel)), by decide +kernel⟩
theorem im_X12_arrive : Cond.instanceMethod yX12_arrive ∈ xT := List.mem_filter.mpr ⟨List.mem_append_right _ (List.mem_of_getElem? (i := 1458) (by decide +kernel)), by decide +kernel⟩
theorem co_X12_arrive : Cond.code yX12_arrive cX12_arrive 5 none ∈ xT := List.mem_filter.mpr ⟨List.mem_append_right _ (List.mem_of_getElem? (i := 1459) (by decide +kernel)), by decide +kernel⟩
theorem im_X12_end : Cond.instanceMethod yX12_end ∈ xT := List.mem_filter.mpr ⟨List.mem_append_right _ (List.mem_of_getElem? (i := 1462) (by decide +kernel)), by decide +kernel⟩
theorem co_X12_end : Cond.code yX12_end cX12_end 3 none ∈ xT := List.mem_filter.mpr ⟨List.mem_append_right _ (List.mem_of_getElem? (i := 1463) (by decide +kernel)), by decide +kernel⟩
theorem im_X12_refund : Cond.instanceMethod yX12_refund ∈ xT := List.mem_filter.mpr ⟨List.mem_append_right _ (List.mem_of_getElem? (i := 1466) (by decide +kernel)), by decide +kernel⟩
theorem co_X12_refund : Cond.code yX12_refund cX12_refund 4 none ∈ xT := List.mem_filter.mpr ⟨List.mem_append_right _ (List.mem_of_getElem? (i := 1467) (by decide +kernel)), by decide +kernel⟩
theorem im_X12_canPass : Cond.instanceMethod yX12_canPass ∈ xT := List.mem_filter.mpr ⟨List.mem_append_right _ (List.mem_of_getElem? (i := 1470) (by decide +kernel)), by decide +kernel⟩
theorem co_X12_canPass : Cond.code yX12_canPass cX12_canPass 6 (some .boolean) ∈ xT := List.mem_filter.mpr ⟨List.mem_append_right _ (List.mem_of_getElem? (i := 1471) (by decide +kernel)), by decide +kernel⟩
theorem im_X12_passOne : Cond.instanceMethod yX12_passOne ∈ xT := List.mem_filter.mpr ⟨List.mem_append_right _ (List.mem_of_getElem? (i := 1474) (by decide +kernel)), by decide +kernel⟩
theorem co_X12_passOne : Cond.code yX12_passOne cX12_passOne 10 none ∈ xT := List.mem_filter.mpr ⟨List.mem_append_right _ (List.mem_of_getElem? (i := 1475) (by decide +kernel)), by decide +kernel⟩
theorem im_X12_spend : Cond.instanceMethod yX12_spend ∈ xT := List.mem_filter.mpr ⟨List.mem_append_right _ (List.mem_of_getElem? (i := 1478) (by decide +kernel)), by decide +kernel⟩
theorem co_X12_spend : Cond.code yX12_spend cX12_spend 6 none ∈ xT := List.mem_filter.mpr ⟨List.mem_append_right _ (List.mem_of_getElem? (i := 1479) (by decide +kernel)), by decide +kernel⟩
theorem im_X12_priceOf : Cond.instanceMethod yX12_priceOf ∈ xT := List.mem_filter.mpr ⟨List.mem_append_right _ (List.mem_of_getElem? (i := 1482) (by decide +kernel)), by decide +kernel⟩
theorem co_X12_priceOf : Cond.code yX12_priceOf cX12_priceOf 9 (some .int) ∈ xT := List.mem_filter.mpr ⟨List.mem_append_right _ (List.mem_of_getElem? (i := 1483) (by decide +kernel)), by decide +kernel⟩
theorem sm_X12_operate : Cond.static yX12_operate ∈ xT := List.mem_filter.mpr ⟨List.mem_append_right _ (List.mem_of_getElem? (i := 1485) (by decide +kernel)), by decide +kernel⟩
theorem co_X12_operate : Cond.code yX12_operate cX12_operate 5 (some .long) ∈ xT := List.mem_filter.mpr ⟨List.mem_append_right _ (List.mem_of_getElem? (i := 1486) (by decide +kernel)), by decide +kernel⟩
theorem sm_X12_limited : Cond.static yX12_limited ∈ xT := List.mem_filter.mpr ⟨List.mem_append_right _ (List.mem_of_getElem? (i := 1488) (by decide +kernel)), by decide +kernel⟩
theorem co_X12_limited : Cond.code yX12_limited cX12_limited 2 (some .long) ∈ xT := List.mem_filter.mpr ⟨List.mem_append_right _ (List.mem_of_getElem? (i := 1489) (by decide +kernel)), by decide +kernel⟩
theorem kc_X12_209 : Cond.constantLong RX12 209 (Int64.ofInt (1000000)) ∈ xT := List.mem_filter.mpr ⟨List.mem_append_right _ (List.mem_of_getElem? (i := 1490) (by decide +kernel)), by decide +kernel⟩
theorem kc_X12_211 : Cond.constantLong RX12 211 (Int64.ofInt (-1000000)) ∈ xT := List.mem_filter.mpr ⟨List.mem_append_right _ (List.mem_of_getElem? (i := 1491) (by decide +kernel)), by decide +kernel⟩
theorem kc_X12_221 : Cond.constantLong RX12 221 (Int64.ofInt (9999)) ∈ xT := List.mem_filter.mpr ⟨List.mem_append_right _ (List.mem_of_getElem? (i := 1492) (by decide +kernel)), by decide +kernel⟩
theorem im_X12_note : Cond.instanceMethod yX12_note ∈ xT := List.mem_filter.mpr ⟨List.mem_append_right _ (List.mem_of_getElem? (i := 1495) (by decide +kernel)), by decide +kernel⟩
theorem co_X12_note : Cond.code yX12_note cX12_note 6 none ∈ xT := List.mem_filter.mpr ⟨List.mem_append_right _ (List.mem_of_getElem? (i := 1496) (by decide +kernel)), by decide +kernel⟩
theorem im_X12_billAfter : Cond.instanceMethod yX12_billAfter ∈ xT := List.mem_filter.mpr ⟨List.mem_append_right _ (List.mem_of_getElem? (i := 1498) (by decide +kernel)), by decide +kernel⟩
theorem se_X12_billAfter : Cond.selects yX12_billAfter.cls yX12_billAfter yX12_billAfter ∈ xT := List.mem_filter.mpr ⟨List.mem_append_right _ (List.mem_of_getElem? (i := 1499) (by decide +kernel)), by decide +kernel⟩
theorem co_X12_billAfter : Cond.code yX12_billAfter cX12_billAfter 4 (some .int) ∈ xT := List.mem_filter.mpr ⟨List.mem_append_right _ (List.mem_of_getElem? (i := 1500) (by decide +kernel)), by decide +kernel⟩
theorem im_X12_help : Cond.instanceMethod yX12_help ∈ xT := List.mem_filter.mpr ⟨List.mem_append_right _ (List.mem_of_getElem? (i := 1502) (by decide +kernel)), by decide +kernel⟩
theorem se_X12_help : Cond.selects yX12_help.cls yX12_help yX12_help ∈ xT := List.mem_filter.mpr ⟨List.mem_append_right _ (List.mem_of_getElem? (i := 1503) (by decide +kernel)), by decide +kernel⟩
theorem co_X12_help : Cond.code yX12_help cX12_help 5 (some .int) ∈ xT := List.mem_filter.mpr ⟨List.mem_append_right _ (List.mem_of_getElem? (i := 1504) (by decide +kernel)), by decide +kernel⟩
theorem im_X12_helps : Cond.instanceMethod yX12_helps ∈ xT := List.mem_filter.mpr ⟨List.mem_append_right _ (List.mem_of_getElem? (i := 1507) (by decide +kernel)), by decide +kernel⟩
theorem co_X12_helps : Cond.code yX12_helps cX12_helps 5 (some .boolean) ∈ xT := List.mem_filter.mpr ⟨List.mem_append_right _ (List.mem_of_getElem? (i := 1508) (by decide +kernel)), by decide +kernel⟩
theorem im_X12_pass : Cond.instanceMethod yX12_pass ∈ xT := List.mem_filter.mpr ⟨List.mem_append_right _ (List.mem_of_getElem? (i := 1510) (by decide +kernel)), by decide +kernel⟩
theorem se_X12_pass : Cond.selects yX12_pass.cls yX12_pass yX12_pass ∈ xT := List.mem_filter.mpr ⟨List.mem_append_right _ (List.mem_of_getElem? (i := 1511) (by decide +kernel)), by decide +kernel⟩
theorem co_X12_pass : Cond.code yX12_pass cX12_pass 4 (some .int) ∈ xT := List.mem_filter.mpr ⟨List.mem_append_right _ (List.mem_of_getElem? (i := 1512) (by decide +kernel)), by decide +kernel⟩
theorem im_X12_forward : Cond.instanceMethod yX12_forward ∈ xT := List.mem_filter.mpr ⟨List.mem_append_right _ (List.mem_of_getElem? (i := 1514) (by decide +kernel)), by decide +kernel⟩
theorem se_X12_forward : Cond.selects yX12_forward.cls yX12_forward yX12_forward ∈ xT := List.mem_filter.mpr ⟨List.mem_append_right _ (List.mem_of_getElem? (i := 1515) (by decide +kernel)), by decide +kernel⟩
theorem co_X12_forward : Cond.code yX12_forward cX12_forward 4 (some .int) ∈ xT := List.mem_filter.mpr ⟨List.mem_append_right _ (List.mem_of_getElem? (i := 1516) (by decide +kernel)), by decide +kernel⟩
theorem im_X12_grant : Cond.instanceMethod yX12_grant ∈ xT := List.mem_filter.mpr ⟨List.mem_append_right _ (List.mem_of_getElem? (i := 1518) (by decide +kernel)), by decide +kernel⟩
theorem se_X12_grant : Cond.selects yX12_grant.cls yX12_grant yX12_grant ∈ xT := List.mem_filter.mpr ⟨List.mem_append_right _ (List.mem_of_getElem? (i := 1519) (by decide +kernel)), by decide +kernel⟩
theorem co_X12_grant : Cond.code yX12_grant cX12_grant 4 (some .int) ∈ xT := List.mem_filter.mpr ⟨List.mem_append_right _ (List.mem_of_getElem? (i := 1520) (by decide +kernel)), by decide +kernel⟩
theorem im_X12_send : Cond.instanceMethod yX12_send ∈ xT := List.mem_filter.mpr ⟨List.mem_append_right _ (List.mem_of_getElem? (i := 1522) (by decide +kernel)), by decide +kernel⟩
theorem se_X12_send : Cond.selects yX12_send.cls yX12_send yX12_send ∈ xT := List.mem_filter.mpr ⟨List.mem_append_right _ (List.mem_of_getElem? (i := 1523) (by decide +kernel)), by decide +kernel⟩
theorem co_X12_send : Cond.code yX12_send cX12_send 3 (some .int) ∈ xT := List.mem_filter.mpr ⟨List.mem_append_right _ (List.mem_of_getElem? (i := 1524) (by decide +kernel)), by decide +kernel⟩
theorem im_X12_setThrift : Cond.instanceMethod yX12_setThrift ∈ xT := List.mem_filter.mpr ⟨List.mem_append_right _ (List.mem_of_getElem? (i := 1526) (by decide +kernel)), by decide +kernel⟩
theorem se_X12_setThrift : Cond.selects yX12_setThrift.cls yX12_setThrift yX12_setThrift ∈ xT := List.mem_filter.mpr ⟨List.mem_append_right _ (List.mem_of_getElem? (i := 1527) (by decide +kernel)), by decide +kernel⟩
theorem co_X12_setThrift : Cond.code yX12_setThrift cX12_setThrift 4 (some .int) ∈ xT := List.mem_filter.mpr ⟨List.mem_append_right _ (List.mem_of_getElem? (i := 1528) (by decide +kernel)), by decide +kernel⟩
theorem im_X12_undo : Cond.instanceMethod yX12_undo ∈ xT := List.mem_filter.mpr ⟨List.mem_append_right _ (List.mem_of_getElem? (i := 1530) (by decide +kernel)), by decide +kernel⟩
theorem se_X12_undo : Cond.selects yX12_undo.cls yX12_undo yX12_undo ∈ xT := List.mem_filter.mpr ⟨List.mem_append_right _ (List.mem_of_getElem? (i := 1531) (by decide +kernel)), by decide +kernel⟩
theorem co_X12_undo : Cond.code yX12_undo cX12_undo 1 (some .int) ∈ xT := List.mem_filter.mpr ⟨List.mem_append_right _ (List.mem_of_getElem? (i := 1532) (by decide +kernel)), by decide +kernel⟩
theorem im_X12_checksum : Cond.instanceMethod yX12_checksum ∈ xT := List.mem_filter.mpr ⟨List.mem_append_right _ (List.mem_of_getElem? (i := 1534) (by decide +kernel)), by decide +kernel⟩
theorem se_X12_checksum : Cond.selects yX12_checksum.cls yX12_checksum yX12_checksum ∈ xT := List.mem_filter.mpr ⟨List.mem_append_right _ (List.mem_of_getElem? (i := 1535) (by decide +kernel)), by decide +kernel⟩
theorem co_X12_checksum : Cond.code yX12_checksum cX12_checksum 5 (some .long) ∈ xT := List.mem_filter.mpr ⟨List.mem_append_right _ (List.mem_of_getElem? (i := 1536) (by decide +kernel)), by decide +kernel⟩
theorem kc_X12_304 : Cond.constantLong RX12 304 (Int64.ofInt (31)) ∈ xT := List.mem_filter.mpr ⟨List.mem_append_right _ (List.mem_of_getElem? (i := 1537) (by decide +kernel)), by decide +kernel⟩
theorem se_X3_at : Cond.selects yX3_at.cls yX3_at yX3_at ∈ xT := List.mem_filter.mpr ⟨List.mem_append_left _ (List.mem_of_getElem? (i := 0) (by decide +kernel)), by decide +kernel⟩
theorem se_X11_checkFlow : Cond.selects yX11_checkFlow.cls yX11_checkFlow yX11_checkFlow ∈ xT := List.mem_filter.mpr ⟨List.mem_append_left _ (List.mem_of_getElem? (i := 2) (by decide +kernel)), by decide +kernel⟩
theorem se_X11_checkPacket : Cond.selects yX11_checkPacket.cls yX11_checkPacket yX11_checkPacket ∈ xT := List.mem_filter.mpr ⟨List.mem_append_left _ (List.mem_of_getElem? (i := 3) (by decide +kernel)), by decide +kernel⟩
theorem se_X11_checkCoupon : Cond.selects yX11_checkCoupon.cls yX11_checkCoupon yX11_checkCoupon ∈ xT := List.mem_filter.mpr ⟨List.mem_append_left _ (List.mem_of_getElem? (i := 4) (by decide +kernel)), by decide +kernel⟩
theorem se_X11_checkGate : Cond.selects yX11_checkGate.cls yX11_checkGate yX11_checkGate ∈ xT := List.mem_filter.mpr ⟨List.mem_append_left _ (List.mem_of_getElem? (i := 5) (by decide +kernel)), by decide +kernel⟩
theorem se_X8_takeSign : Cond.selects yX8_takeSign.cls yX8_takeSign yX8_takeSign ∈ xT := List.mem_filter.mpr ⟨List.mem_append_left _ (List.mem_of_getElem? (i := 6) (by decide +kernel)), by decide +kernel⟩
theorem se_X8_fail : Cond.selects yX8_fail.cls yX8_fail yX8_fail ∈ xT := List.mem_filter.mpr ⟨List.mem_append_left _ (List.mem_of_getElem? (i := 7) (by decide +kernel)), by decide +kernel⟩
theorem se_X8_readStatement : Cond.selects yX8_readStatement.cls yX8_readStatement yX8_readStatement ∈ xT := List.mem_filter.mpr ⟨List.mem_append_left _ (List.mem_of_getElem? (i := 8) (by decide +kernel)), by decide +kernel⟩
theorem se_X8_readGate : Cond.selects yX8_readGate.cls yX8_readGate yX8_readGate ∈ xT := List.mem_filter.mpr ⟨List.mem_append_left _ (List.mem_of_getElem? (i := 9) (by decide +kernel)), by decide +kernel⟩
theorem se_X8_takeCounted : Cond.selects yX8_takeCounted.cls yX8_takeCounted yX8_takeCounted ∈ xT := List.mem_filter.mpr ⟨List.mem_append_left _ (List.mem_of_getElem? (i := 10) (by decide +kernel)), by decide +kernel⟩
theorem se_X8_takeNumber : Cond.selects yX8_takeNumber.cls yX8_takeNumber yX8_takeNumber ∈ xT := List.mem_filter.mpr ⟨List.mem_append_left _ (List.mem_of_getElem? (i := 11) (by decide +kernel)), by decide +kernel⟩
theorem se_X8_numberStands : Cond.selects yX8_numberStands.cls yX8_numberStands yX8_numberStands ∈ xT := List.mem_filter.mpr ⟨List.mem_append_left _ (List.mem_of_getElem? (i := 12) (by decide +kernel)), by decide +kernel⟩
theorem se_X8_readFlow : Cond.selects yX8_readFlow.cls yX8_readFlow yX8_readFlow ∈ xT := List.mem_filter.mpr ⟨List.mem_append_left _ (List.mem_of_getElem? (i := 13) (by decide +kernel)), by decide +kernel⟩
theorem se_X8_readPlace : Cond.selects yX8_readPlace.cls yX8_readPlace yX8_readPlace ∈ xT := List.mem_filter.mpr ⟨List.mem_append_left _ (List.mem_of_getElem? (i := 14) (by decide +kernel)), by decide +kernel⟩
theorem se_X8_readPacket : Cond.selects yX8_readPacket.cls yX8_readPacket yX8_readPacket ∈ xT := List.mem_filter.mpr ⟨List.mem_append_left _ (List.mem_of_getElem? (i := 15) (by decide +kernel)), by decide +kernel⟩
theorem se_X8_readCoupon : Cond.selects yX8_readCoupon.cls yX8_readCoupon yX8_readCoupon ∈ xT := List.mem_filter.mpr ⟨List.mem_append_left _ (List.mem_of_getElem? (i := 16) (by decide +kernel)), by decide +kernel⟩
theorem se_X8_readSum : Cond.selects yX8_readSum.cls yX8_readSum yX8_readSum ∈ xT := List.mem_filter.mpr ⟨List.mem_append_left _ (List.mem_of_getElem? (i := 17) (by decide +kernel)), by decide +kernel⟩
theorem se_X8_readTerm : Cond.selects yX8_readTerm.cls yX8_readTerm yX8_readTerm ∈ xT := List.mem_filter.mpr ⟨List.mem_append_left _ (List.mem_of_getElem? (i := 18) (by decide +kernel)), by decide +kernel⟩
theorem se_X8_readFactor : Cond.selects yX8_readFactor.cls yX8_readFactor yX8_readFactor ∈ xT := List.mem_filter.mpr ⟨List.mem_append_left _ (List.mem_of_getElem? (i := 19) (by decide +kernel)), by decide +kernel⟩
theorem se_X8_emit : Cond.selects yX8_emit.cls yX8_emit yX8_emit ∈ xT := List.mem_filter.mpr ⟨List.mem_append_left _ (List.mem_of_getElem? (i := 20) (by decide +kernel)), by decide +kernel⟩
theorem se_X8_isEither : Cond.selects yX8_isEither.cls yX8_isEither yX8_isEither ∈ xT := List.mem_filter.mpr ⟨List.mem_append_left _ (List.mem_of_getElem? (i := 21) (by decide +kernel)), by decide +kernel⟩
theorem se_X11_checkRange : Cond.selects yX11_checkRange.cls yX11_checkRange yX11_checkRange ∈ xT := List.mem_filter.mpr ⟨List.mem_append_left _ (List.mem_of_getElem? (i := 22) (by decide +kernel)), by decide +kernel⟩
theorem se_X6_loadFrom : Cond.selects yX6_loadFrom.cls yX6_loadFrom yX6_loadFrom ∈ xT := List.mem_filter.mpr ⟨List.mem_append_left _ (List.mem_of_getElem? (i := 23) (by decide +kernel)), by decide +kernel⟩
theorem se_X10_quietTicks : Cond.selects yX10_quietTicks.cls yX10_quietTicks yX10_quietTicks ∈ xT := List.mem_filter.mpr ⟨List.mem_append_left _ (List.mem_of_getElem? (i := 24) (by decide +kernel)), by decide +kernel⟩
theorem se_X10_ticksBeforePassage : Cond.selects yX10_ticksBeforePassage.cls yX10_ticksBeforePassage yX10_ticksBeforePassage ∈ xT := List.mem_filter.mpr ⟨List.mem_append_left _ (List.mem_of_getElem? (i := 25) (by decide +kernel)), by decide +kernel⟩
theorem se_X10_rest : Cond.selects yX10_rest.cls yX10_rest yX10_rest ∈ xT := List.mem_filter.mpr ⟨List.mem_append_left _ (List.mem_of_getElem? (i := 26) (by decide +kernel)), by decide +kernel⟩
theorem se_X10_refill : Cond.selects yX10_refill.cls yX10_refill yX10_refill ∈ xT := List.mem_filter.mpr ⟨List.mem_append_left _ (List.mem_of_getElem? (i := 27) (by decide +kernel)), by decide +kernel⟩
theorem se_X10_noteLack : Cond.selects yX10_noteLack.cls yX10_noteLack yX10_noteLack ∈ xT := List.mem_filter.mpr ⟨List.mem_append_left _ (List.mem_of_getElem? (i := 28) (by decide +kernel)), by decide +kernel⟩
theorem se_X10_tick : Cond.selects yX10_tick.cls yX10_tick yX10_tick ∈ xT := List.mem_filter.mpr ⟨List.mem_append_left _ (List.mem_of_getElem? (i := 29) (by decide +kernel)), by decide +kernel⟩
theorem se_X0_removeAt : Cond.selects yX0_removeAt.cls yX0_removeAt yX0_removeAt ∈ xT := List.mem_filter.mpr ⟨List.mem_append_left _ (List.mem_of_getElem? (i := 30) (by decide +kernel)), by decide +kernel⟩
theorem se_X10_arrive : Cond.selects yX10_arrive.cls yX10_arrive yX10_arrive ∈ xT := List.mem_filter.mpr ⟨List.mem_append_left _ (List.mem_of_getElem? (i := 31) (by decide +kernel)), by decide +kernel⟩
theorem se_X10_refund : Cond.selects yX10_refund.cls yX10_refund yX10_refund ∈ xT := List.mem_filter.mpr ⟨List.mem_append_left _ (List.mem_of_getElem? (i := 32) (by decide +kernel)), by decide +kernel⟩
theorem se_X10_openGate : Cond.selects yX10_openGate.cls yX10_openGate yX10_openGate ∈ xT := List.mem_filter.mpr ⟨List.mem_append_left _ (List.mem_of_getElem? (i := 33) (by decide +kernel)), by decide +kernel⟩
theorem se_X10_passGate : Cond.selects yX10_passGate.cls yX10_passGate yX10_passGate ∈ xT := List.mem_filter.mpr ⟨List.mem_append_left _ (List.mem_of_getElem? (i := 34) (by decide +kernel)), by decide +kernel⟩
theorem se_X0_firstToEnd : Cond.selects yX0_firstToEnd.cls yX0_firstToEnd yX0_firstToEnd ∈ xT := List.mem_filter.mpr ⟨List.mem_append_left _ (List.mem_of_getElem? (i := 35) (by decide +kernel)), by decide +kernel⟩
theorem se_X12_fails : Cond.selects yX12_fails.cls yX12_fails yX12_fails ∈ xT := List.mem_filter.mpr ⟨List.mem_append_left _ (List.mem_of_getElem? (i := 36) (by decide +kernel)), by decide +kernel⟩
theorem se_X12_takeWord : Cond.selects yX12_takeWord.cls yX12_takeWord yX12_takeWord ∈ xT := List.mem_filter.mpr ⟨List.mem_append_left _ (List.mem_of_getElem? (i := 37) (by decide +kernel)), by decide +kernel⟩
theorem se_X12_isGood : Cond.selects yX12_isGood.cls yX12_isGood yX12_isGood ∈ xT := List.mem_filter.mpr ⟨List.mem_append_left _ (List.mem_of_getElem? (i := 38) (by decide +kernel)), by decide +kernel⟩
theorem se_X12_next : Cond.selects yX12_next.cls yX12_next yX12_next ∈ xT := List.mem_filter.mpr ⟨List.mem_append_left _ (List.mem_of_getElem? (i := 39) (by decide +kernel)), by decide +kernel⟩
theorem se_X12_byteAt : Cond.selects yX12_byteAt.cls yX12_byteAt yX12_byteAt ∈ xT := List.mem_filter.mpr ⟨List.mem_append_left _ (List.mem_of_getElem? (i := 40) (by decide +kernel)), by decide +kernel⟩
theorem se_X12_report : Cond.selects yX12_report.cls yX12_report yX12_report ∈ xT := List.mem_filter.mpr ⟨List.mem_append_left _ (List.mem_of_getElem? (i := 41) (by decide +kernel)), by decide +kernel⟩
theorem se_X12_expect : Cond.selects yX12_expect.cls yX12_expect yX12_expect ∈ xT := List.mem_filter.mpr ⟨List.mem_append_left _ (List.mem_of_getElem? (i := 42) (by decide +kernel)), by decide +kernel⟩
theorem se_X12_statement : Cond.selects yX12_statement.cls yX12_statement yX12_statement ∈ xT := List.mem_filter.mpr ⟨List.mem_append_left _ (List.mem_of_getElem? (i := 43) (by decide +kernel)), by decide +kernel⟩
theorem se_X12_readGate : Cond.selects yX12_readGate.cls yX12_readGate yX12_readGate ∈ xT := List.mem_filter.mpr ⟨List.mem_append_left _ (List.mem_of_getElem? (i := 44) (by decide +kernel)), by decide +kernel⟩
theorem se_X12_number : Cond.selects yX12_number.cls yX12_number yX12_number ∈ xT := List.mem_filter.mpr ⟨List.mem_append_left _ (List.mem_of_getElem? (i := 45) (by decide +kernel)), by decide +kernel⟩
theorem se_X12_readFlow : Cond.selects yX12_readFlow.cls yX12_readFlow yX12_readFlow ∈ xT := List.mem_filter.mpr ⟨List.mem_append_left _ (List.mem_of_getElem? (i := 46) (by decide +kernel)), by decide +kernel⟩
theorem se_X12_isOnWay : Cond.selects yX12_isOnWay.cls yX12_isOnWay yX12_isOnWay ∈ xT := List.mem_filter.mpr ⟨List.mem_append_left _ (List.mem_of_getElem? (i := 47) (by decide +kernel)), by decide +kernel⟩
theorem se_X12_readPacket : Cond.selects yX12_readPacket.cls yX12_readPacket yX12_readPacket ∈ xT := List.mem_filter.mpr ⟨List.mem_append_left _ (List.mem_of_getElem? (i := 48) (by decide +kernel)), by decide +kernel⟩
theorem se_X12_readCoupon : Cond.selects yX12_readCoupon.cls yX12_readCoupon yX12_readCoupon ∈ xT := List.mem_filter.mpr ⟨List.mem_append_left _ (List.mem_of_getElem? (i := 49) (by decide +kernel)), by decide +kernel⟩
theorem se_X12_once : Cond.selects yX12_once.cls yX12_once yX12_once ∈ xT := List.mem_filter.mpr ⟨List.mem_append_left _ (List.mem_of_getElem? (i := 50) (by decide +kernel)), by decide +kernel⟩
theorem se_X12_sum : Cond.selects yX12_sum.cls yX12_sum yX12_sum ∈ xT := List.mem_filter.mpr ⟨List.mem_append_left _ (List.mem_of_getElem? (i := 51) (by decide +kernel)), by decide +kernel⟩
theorem se_X12_term : Cond.selects yX12_term.cls yX12_term yX12_term ∈ xT := List.mem_filter.mpr ⟨List.mem_append_left _ (List.mem_of_getElem? (i := 52) (by decide +kernel)), by decide +kernel⟩
theorem se_X12_factor : Cond.selects yX12_factor.cls yX12_factor yX12_factor ∈ xT := List.mem_filter.mpr ⟨List.mem_append_left _ (List.mem_of_getElem? (i := 53) (by decide +kernel)), by decide +kernel⟩
theorem se_X12_emit : Cond.selects yX12_emit.cls yX12_emit yX12_emit ∈ xT := List.mem_filter.mpr ⟨List.mem_append_left _ (List.mem_of_getElem? (i := 54) (by decide +kernel)), by decide +kernel⟩
theorem se_X12_remember : Cond.selects yX12_remember.cls yX12_remember yX12_remember ∈ xT := List.mem_filter.mpr ⟨List.mem_append_left _ (List.mem_of_getElem? (i := 55) (by decide +kernel)), by decide +kernel⟩
theorem se_X12_noGate : Cond.selects yX12_noGate.cls yX12_noGate yX12_noGate ∈ xT := List.mem_filter.mpr ⟨List.mem_append_left _ (List.mem_of_getElem? (i := 56) (by decide +kernel)), by decide +kernel⟩
theorem se_X12_noNumber : Cond.selects yX12_noNumber.cls yX12_noNumber yX12_noNumber ∈ xT := List.mem_filter.mpr ⟨List.mem_append_left _ (List.mem_of_getElem? (i := 57) (by decide +kernel)), by decide +kernel⟩
theorem se_X12_ofGate : Cond.selects yX12_ofGate.cls yX12_ofGate yX12_ofGate ∈ xT := List.mem_filter.mpr ⟨List.mem_append_left _ (List.mem_of_getElem? (i := 58) (by decide +kernel)), by decide +kernel⟩
theorem se_X12_noFlow : Cond.selects yX12_noFlow.cls yX12_noFlow yX12_noFlow ∈ xT := List.mem_filter.mpr ⟨List.mem_append_left _ (List.mem_of_getElem? (i := 59) (by decide +kernel)), by decide +kernel⟩
theorem se_X12_toldFlow : Cond.selects yX12_toldFlow.cls yX12_toldFlow yX12_toldFlow ∈ xT := List.mem_filter.mpr ⟨List.mem_append_left _ (List.mem_of_getElem? (i := 60) (by decide +kernel)), by decide +kernel⟩
theorem se_X12_ofFlow : Cond.selects yX12_ofFlow.cls yX12_ofFlow yX12_ofFlow ∈ xT := List.mem_filter.mpr ⟨List.mem_append_left _ (List.mem_of_getElem? (i := 61) (by decide +kernel)), by decide +kernel⟩
theorem se_X12_couponsOf : Cond.selects yX12_couponsOf.cls yX12_couponsOf yX12_couponsOf ∈ xT := List.mem_filter.mpr ⟨List.mem_append_left _ (List.mem_of_getElem? (i := 62) (by decide +kernel)), by decide +kernel⟩
theorem se_X12_valuesOf : Cond.selects yX12_valuesOf.cls yX12_valuesOf yX12_valuesOf ∈ xT := List.mem_filter.mpr ⟨List.mem_append_left _ (List.mem_of_getElem? (i := 63) (by decide +kernel)), by decide +kernel⟩
theorem se_X12_noPacket : Cond.selects yX12_noPacket.cls yX12_noPacket yX12_noPacket ∈ xT := List.mem_filter.mpr ⟨List.mem_append_left _ (List.mem_of_getElem? (i := 64) (by decide +kernel)), by decide +kernel⟩
theorem se_X12_toldPacket : Cond.selects yX12_toldPacket.cls yX12_toldPacket yX12_toldPacket ∈ xT := List.mem_filter.mpr ⟨List.mem_append_left _ (List.mem_of_getElem? (i := 65) (by decide +kernel)), by decide +kernel⟩
theorem se_X12_gateOf : Cond.selects yX12_gateOf.cls yX12_gateOf yX12_gateOf ∈ xT := List.mem_filter.mpr ⟨List.mem_append_left _ (List.mem_of_getElem? (i := 66) (by decide +kernel)), by decide +kernel⟩
theorem se_X12_noCoupon : Cond.selects yX12_noCoupon.cls yX12_noCoupon yX12_noCoupon ∈ xT := List.mem_filter.mpr ⟨List.mem_append_left _ (List.mem_of_getElem? (i := 67) (by decide +kernel)), by decide +kernel⟩
theorem se_X12_isKept : Cond.selects yX12_isKept.cls yX12_isKept yX12_isKept ∈ xT := List.mem_filter.mpr ⟨List.mem_append_left _ (List.mem_of_getElem? (i := 68) (by decide +kernel)), by decide +kernel⟩
theorem se_X12_kept : Cond.selects yX12_kept.cls yX12_kept yX12_kept ∈ xT := List.mem_filter.mpr ⟨List.mem_append_left _ (List.mem_of_getElem? (i := 69) (by decide +kernel)), by decide +kernel⟩
theorem se_X12_endOf : Cond.selects yX12_endOf.cls yX12_endOf yX12_endOf ∈ xT := List.mem_filter.mpr ⟨List.mem_append_left _ (List.mem_of_getElem? (i := 70) (by decide +kernel)), by decide +kernel⟩
theorem se_X12_hasEnded : Cond.selects yX12_hasEnded.cls yX12_hasEnded yX12_hasEnded ∈ xT := List.mem_filter.mpr ⟨List.mem_append_left _ (List.mem_of_getElem? (i := 71) (by decide +kernel)), by decide +kernel⟩
theorem se_X12_tick : Cond.selects yX12_tick.cls yX12_tick yX12_tick ∈ xT := List.mem_filter.mpr ⟨List.mem_append_left _ (List.mem_of_getElem? (i := 72) (by decide +kernel)), by decide +kernel⟩
theorem se_X12_dropCoupon : Cond.selects yX12_dropCoupon.cls yX12_dropCoupon yX12_dropCoupon ∈ xT := List.mem_filter.mpr ⟨List.mem_append_left _ (List.mem_of_getElem? (i := 73) (by decide +kernel)), by decide +kernel⟩
theorem se_X12_arrive : Cond.selects yX12_arrive.cls yX12_arrive yX12_arrive ∈ xT := List.mem_filter.mpr ⟨List.mem_append_left _ (List.mem_of_getElem? (i := 74) (by decide +kernel)), by decide +kernel⟩
theorem se_X12_end : Cond.selects yX12_end.cls yX12_end yX12_end ∈ xT := List.mem_filter.mpr ⟨List.mem_append_left _ (List.mem_of_getElem? (i := 75) (by decide +kernel)), by decide +kernel⟩
theorem se_X12_refund : Cond.selects yX12_refund.cls yX12_refund yX12_refund ∈ xT := List.mem_filter.mpr ⟨List.mem_append_left _ (List.mem_of_getElem? (i := 76) (by decide +kernel)), by decide +kernel⟩
theorem se_X12_canPass : Cond.selects yX12_canPass.cls yX12_canPass yX12_canPass ∈ xT := List.mem_filter.mpr ⟨List.mem_append_left _ (List.mem_of_getElem? (i := 77) (by decide +kernel)), by decide +kernel⟩
theorem se_X12_passOne : Cond.selects yX12_passOne.cls yX12_passOne yX12_passOne ∈ xT := List.mem_filter.mpr ⟨List.mem_append_left _ (List.mem_of_getElem? (i := 78) (by decide +kernel)), by decide +kernel⟩
theorem se_X12_spend : Cond.selects yX12_spend.cls yX12_spend yX12_spend ∈ xT := List.mem_filter.mpr ⟨List.mem_append_left _ (List.mem_of_getElem? (i := 79) (by decide +kernel)), by decide +kernel⟩
theorem se_X12_priceOf : Cond.selects yX12_priceOf.cls yX12_priceOf yX12_priceOf ∈ xT := List.mem_filter.mpr ⟨List.mem_append_left _ (List.mem_of_getElem? (i := 80) (by decide +kernel)), by decide +kernel⟩
theorem se_X12_note : Cond.selects yX12_note.cls yX12_note yX12_note ∈ xT := List.mem_filter.mpr ⟨List.mem_append_left _ (List.mem_of_getElem? (i := 81) (by decide +kernel)), by decide +kernel⟩
theorem se_X12_helps : Cond.selects yX12_helps.cls yX12_helps yX12_helps ∈ xT := List.mem_filter.mpr ⟨List.mem_append_left _ (List.mem_of_getElem? (i := 82) (by decide +kernel)), by decide +kernel⟩
theorem lk_L_77 : xLk RL 77 yX11_init cX11_init 1 none 0 := ⟨List.mem_filter.mpr ⟨List.mem_append_right _ (List.mem_of_getElem? (i := 30) (by decide +kernel)), by decide +kernel⟩, in_X11, co_X11_init, ⟨by decide +kernel, by decide +kernel⟩, by decide +kernel, by decide⟩
theorem lj_X11_1 : Cond.methodLink RX11 1 objectInit ∈ xT := List.mem_filter.mpr ⟨List.mem_append_right _ (List.mem_of_getElem? (i := 33) (by decide +kernel)), by decide +kernel⟩
theorem ln_X11_9 : xLn RX11 9 yX8_init "PacketToll" cX8_init 1 none 0 := ⟨by decide +kernel, in_X8, co_X8_init, ⟨by decide +kernel, by decide +kernel⟩, by decide +kernel, by decide⟩
theorem lj_X8_3 : Cond.methodLink RX8 3 objectInit ∈ xT := List.mem_filter.mpr ⟨List.mem_append_right _ (List.mem_of_getElem? (i := 41) (by decide +kernel)), by decide +kernel⟩
theorem ln_X8_11 : xLn RX8 11 yX9_init "PacketToll" cX9_init 1 none 0 := ⟨by decide +kernel, in_X9, co_X9_init, ⟨by decide +kernel, by decide +kernel⟩, by decide +kernel, by decide⟩
theorem lj_X9_3 : Cond.methodLink RX9 3 objectInit ∈ xT := List.mem_filter.mpr ⟨List.mem_append_right _ (List.mem_of_getElem? (i := 47) (by decide +kernel)), by decide +kernel⟩
theorem fd_X9_9 : xFd RX9 9 9 0 RX9 TX9 7 := ⟨rfl, by decide, by decide, List.mem_filter.mpr ⟨List.mem_append_right _ (List.mem_of_getElem? (i := 48) (by decide +kernel)), by decide +kernel⟩, rfl, rfl, uw_X9⟩
theorem fd_X9_15 : xFd RX9 15 9 1 RX9 TX9 7 := ⟨rfl, by decide, by decide, List.mem_filter.mpr ⟨List.mem_append_right _ (List.mem_of_getElem? (i := 49) (by decide +kernel)), by decide +kernel⟩, rfl, rfl, uw_X9⟩
theorem fd_X11_41 : xFd RX11 41 9 1 RX9 TX9 7 := ⟨rfl, by decide, by decide, List.mem_filter.mpr ⟨List.mem_append_right _ (List.mem_of_getElem? (i := 50) (by decide +kernel)), by decide +kernel⟩, rfl, rfl, uw_X9⟩
theorem fd_X9_25 : xFd RX9 25 9 2 RX9 TX9 7 := ⟨rfl, by decide, by decide, List.mem_filter.mpr ⟨List.mem_append_right _ (List.mem_of_getElem? (i := 51) (by decide +kernel)), by decide +kernel⟩, rfl, rfl, uw_X9⟩
theorem fd_X9_28 : xFd RX9 28 9 3 RX9 TX9 7 := ⟨rfl, by decide, by decide, List.mem_filter.mpr ⟨List.mem_append_right _ (List.mem_of_getElem? (i := 52) (by decide +kernel)), by decide +kernel⟩, rfl, rfl, uw_X9⟩
theorem fd_X8_68 : xFd RX8 68 9 4 RX9 TX9 7 := ⟨rfl, by decide, by decide, List.mem_filter.mpr ⟨List.mem_append_right _ (List.mem_of_getElem? (i := 53) (by decide +kernel)), by decide +kernel⟩, rfl, rfl, uw_X9⟩
theorem fd_X9_37 : xFd RX9 37 9 4 RX9 TX9 7 := ⟨rfl, by decide, by decide, List.mem_filter.mpr ⟨List.mem_append_right _ (List.mem_of_getElem? (i := 54) (by decide +kernel)), by decide +kernel⟩, rfl, rfl, uw_X9⟩
theorem fd_X8_95 : xFd RX8 95 9 5 RX9 TX9 7 := ⟨rfl, by decide, by decide, List.mem_filter.mpr ⟨List.mem_append_right _ (List.mem_of_getElem? (i := 55) (by decide +kernel)), by decide +kernel⟩, rfl, rfl, uw_X9⟩
theorem fd_X9_34 : xFd RX9 34 9 5 RX9 TX9 7 := ⟨rfl, by decide, by decide, List.mem_filter.mpr ⟨List.mem_append_right _ (List.mem_of_getElem? (i := 56) (by decide +kernel)), by decide +kernel⟩, rfl, rfl, uw_X9⟩
theorem fd_X9_40 : xFd RX9 40 9 6 RX9 TX9 7 := ⟨rfl, by decide, by decide, List.mem_filter.mpr ⟨List.mem_append_right _ (List.mem_of_getElem? (i := 57) (by decide +kernel)), by decide +kernel⟩, rfl, rfl, uw_X9⟩
theorem fd_X8_98 : xFd RX8 98 9 6 RX9 TX9 7 := ⟨rfl, by decide, by decide, List.mem_filter.mpr ⟨List.mem_append_right _ (List.mem_of_getElem? (i := 58) (by decide +kernel)), by decide +kernel⟩, rfl, rfl, uw_X9⟩
theorem ln_X8_20 : xLn RX8 20 yX10_init "PacketToll" cX10_init 1 none 0 := ⟨by decide +kernel, in_X10, co_X10_init, ⟨by decide +kernel, by decide +kernel⟩, by decide +kernel, by decide⟩
theorem lj_X10_3 : Cond.methodLink RX10 3 objectInit ∈ xT := List.mem_filter.mpr ⟨List.mem_append_right _ (List.mem_of_getElem? (i := 80) (by decide +kernel)), by decide +kernel⟩
theorem ln_X10_11 : xLn RX10 11 yX2_init "PacketToll" cX2_init 1 none 0 := ⟨by decide +kernel, in_X2, co_X2_init, ⟨by decide +kernel, by decide +kernel⟩, by decide +kernel, by decide⟩
theorem lj_X2_3 : Cond.methodLink RX2 3 objectInit ∈ xT := List.mem_filter.mpr ⟨List.mem_append_right _ (List.mem_of_getElem? (i := 86) (by decide +kernel)), by decide +kernel⟩
theorem fd_X2_9 : xFd RX2 9 2 0 RX2 TX2 4 := ⟨rfl, by decide, by decide, List.mem_filter.mpr ⟨List.mem_append_right _ (List.mem_of_getElem? (i := 87) (by decide +kernel)), by decide +kernel⟩, rfl, rfl, uw_X2⟩
theorem fd_X11_125 : xFd RX11 125 2 0 RX2 TX2 4 := ⟨rfl, by decide, by decide, List.mem_filter.mpr ⟨List.mem_append_right _ (List.mem_of_getElem? (i := 88) (by decide +kernel)), by decide +kernel⟩, rfl, rfl, uw_X2⟩
theorem fd_X10_206 : xFd RX10 206 2 0 RX2 TX2 4 := ⟨rfl, by decide, by decide, List.mem_filter.mpr ⟨List.mem_append_right _ (List.mem_of_getElem? (i := 89) (by decide +kernel)), by decide +kernel⟩, rfl, rfl, uw_X2⟩
theorem fd_X2_15 : xFd RX2 15 2 1 RX2 TX2 4 := ⟨rfl, by decide, by decide, List.mem_filter.mpr ⟨List.mem_append_right _ (List.mem_of_getElem? (i := 90) (by decide +kernel)), by decide +kernel⟩, rfl, rfl, uw_X2⟩
theorem fd_X10_116 : xFd RX10 116 2 1 RX2 TX2 4 := ⟨rfl, by decide, by decide, List.mem_filter.mpr ⟨List.mem_append_right _ (List.mem_of_getElem? (i := 91) (by decide +kernel)), by decide +kernel⟩, rfl, rfl, uw_X2⟩
theorem fd_X11_129 : xFd RX11 129 2 1 RX2 TX2 4 := ⟨rfl, by decide, by decide, List.mem_filter.mpr ⟨List.mem_append_right _ (List.mem_of_getElem? (i := 92) (by decide +kernel)), by decide +kernel⟩, rfl, rfl, uw_X2⟩
theorem fd_X2_18 : xFd RX2 18 2 2 RX2 TX2 4 := ⟨rfl, by decide, by decide, List.mem_filter.mpr ⟨List.mem_append_right _ (List.mem_of_getElem? (i := 93) (by decide +kernel)), by decide +kernel⟩, rfl, rfl, uw_X2⟩
theorem fd_X11_132 : xFd RX11 132 2 2 RX2 TX2 4 := ⟨rfl, by decide, by decide, List.mem_filter.mpr ⟨List.mem_append_right _ (List.mem_of_getElem? (i := 94) (by decide +kernel)), by decide +kernel⟩, rfl, rfl, uw_X2⟩
theorem fd_X10_212 : xFd RX10 212 2 2 RX2 TX2 4 := ⟨rfl, by decide, by decide, List.mem_filter.mpr ⟨List.mem_append_right _ (List.mem_of_getElem? (i := 95) (by decide +kernel)), by decide +kernel⟩, rfl, rfl, uw_X2⟩
theorem fd_X2_21 : xFd RX2 21 2 3 RX2 TX2 4 := ⟨rfl, by decide, by decide, List.mem_filter.mpr ⟨List.mem_append_right _ (List.mem_of_getElem? (i := 96) (by decide +kernel)), by decide +kernel⟩, rfl, rfl, uw_X2⟩
theorem fd_X10_107 : xFd RX10 107 2 3 RX2 TX2 4 := ⟨rfl, by decide, by decide, List.mem_filter.mpr ⟨List.mem_append_right _ (List.mem_of_getElem? (i := 97) (by decide +kernel)), by decide +kernel⟩, rfl, rfl, uw_X2⟩
theorem fd_X11_90 : xFd RX11 90 2 3 RX2 TX2 4 := ⟨rfl, by decide, by decide, List.mem_filter.mpr ⟨List.mem_append_right _ (List.mem_of_getElem? (i := 98) (by decide +kernel)), by decide +kernel⟩, rfl, rfl, uw_X2⟩
theorem fd_X8_149 : xFd RX8 149 2 3 RX2 TX2 4 := ⟨rfl, by decide, by decide, List.mem_filter.mpr ⟨List.mem_append_right _ (List.mem_of_getElem? (i := 99) (by decide +kernel)), by decide +kernel⟩, rfl, rfl, uw_X2⟩
theorem ln_X10_20 : xLn RX10 20 yX1_init "PacketToll" cX1_init 1 none 0 := ⟨by decide +kernel, in_X1, co_X1_init, ⟨by decide +kernel, by decide +kernel⟩, by decide +kernel, by decide⟩
theorem lj_X1_3 : Cond.methodLink RX1 3 objectInit ∈ xT := List.mem_filter.mpr ⟨List.mem_append_right _ (List.mem_of_getElem? (i := 115) (by decide +kernel)), by decide +kernel⟩
theorem fd_X1_9 : xFd RX1 9 1 0 RX1 TX1 5 := ⟨rfl, by decide, by decide, List.mem_filter.mpr ⟨List.mem_append_right _ (List.mem_of_getElem? (i := 116) (by decide +kernel)), by decide +kernel⟩, rfl, rfl, uw_X1⟩
theorem fd_X1_15 : xFd RX1 15 1 1 RX1 TX1 5 := ⟨rfl, by decide, by decide, List.mem_filter.mpr ⟨List.mem_append_right _ (List.mem_of_getElem? (i := 117) (by decide +kernel)), by decide +kernel⟩, rfl, rfl, uw_X1⟩
theorem fd_X11_138 : xFd RX11 138 1 1 RX1 TX1 5 := ⟨rfl, by decide, by decide, List.mem_filter.mpr ⟨List.mem_append_right _ (List.mem_of_getElem? (i := 118) (by decide +kernel)), by decide +kernel⟩, rfl, rfl, uw_X1⟩
theorem fd_X10_250 : xFd RX10 250 1 1 RX1 TX1 5 := ⟨rfl, by decide, by decide, List.mem_filter.mpr ⟨List.mem_append_right _ (List.mem_of_getElem? (i := 119) (by decide +kernel)), by decide +kernel⟩, rfl, rfl, uw_X1⟩
theorem fd_X1_18 : xFd RX1 18 1 2 RX1 TX1 5 := ⟨rfl, by decide, by decide, List.mem_filter.mpr ⟨List.mem_append_right _ (List.mem_of_getElem? (i := 120) (by decide +kernel)), by decide +kernel⟩, rfl, rfl, uw_X1⟩
theorem fd_X11_141 : xFd RX11 141 1 2 RX1 TX1 5 := ⟨rfl, by decide, by decide, List.mem_filter.mpr ⟨List.mem_append_right _ (List.mem_of_getElem? (i := 121) (by decide +kernel)), by decide +kernel⟩, rfl, rfl, uw_X1⟩
theorem fd_X10_187 : xFd RX10 187 1 2 RX1 TX1 5 := ⟨rfl, by decide, by decide, List.mem_filter.mpr ⟨List.mem_append_right _ (List.mem_of_getElem? (i := 122) (by decide +kernel)), by decide +kernel⟩, rfl, rfl, uw_X1⟩
theorem fd_X1_21 : xFd RX1 21 1 3 RX1 TX1 5 := ⟨rfl, by decide, by decide, List.mem_filter.mpr ⟨List.mem_append_right _ (List.mem_of_getElem? (i := 123) (by decide +kernel)), by decide +kernel⟩, rfl, rfl, uw_X1⟩
theorem fd_X11_144 : xFd RX11 144 1 3 RX1 TX1 5 := ⟨rfl, by decide, by decide, List.mem_filter.mpr ⟨List.mem_append_right _ (List.mem_of_getElem? (i := 124) (by decide +kernel)), by decide +kernel⟩, rfl, rfl, uw_X1⟩
theorem fd_X10_240 : xFd RX10 240 1 3 RX1 TX1 5 := ⟨rfl, by decide, by decide, List.mem_filter.mpr ⟨List.mem_append_right _ (List.mem_of_getElem? (i := 125) (by decide +kernel)), by decide +kernel⟩, rfl, rfl, uw_X1⟩
theorem fd_X1_24 : xFd RX1 24 1 4 RX1 TX1 5 := ⟨rfl, by decide, by decide, List.mem_filter.mpr ⟨List.mem_append_right _ (List.mem_of_getElem? (i := 126) (by decide +kernel)), by decide +kernel⟩, rfl, rfl, uw_X1⟩
theorem fd_X10_110 : xFd RX10 110 1 4 RX1 TX1 5 := ⟨rfl, by decide, by decide, List.mem_filter.mpr ⟨List.mem_append_right _ (List.mem_of_getElem? (i := 127) (by decide +kernel)), by decide +kernel⟩, rfl, rfl, uw_X1⟩
theorem fd_X11_97 : xFd RX11 97 1 4 RX1 TX1 5 := ⟨rfl, by decide, by decide, List.mem_filter.mpr ⟨List.mem_append_right _ (List.mem_of_getElem? (i := 128) (by decide +kernel)), by decide +kernel⟩, rfl, rfl, uw_X1⟩
theorem fd_X8_166 : xFd RX8 166 1 4 RX1 TX1 5 := ⟨rfl, by decide, by decide, List.mem_filter.mpr ⟨List.mem_append_right _ (List.mem_of_getElem? (i := 129) (by decide +kernel)), by decide +kernel⟩, rfl, rfl, uw_X1⟩
theorem ln_X10_27 : xLn RX10 27 yX4_init "PacketToll" cX4_init 1 none 0 := ⟨by decide +kernel, in_X4, co_X4_init, ⟨by decide +kernel, by decide +kernel⟩, by decide +kernel, by decide⟩
theorem lj_X4_3 : Cond.methodLink RX4 3 objectInit ∈ xT := List.mem_filter.mpr ⟨List.mem_append_right _ (List.mem_of_getElem? (i := 146) (by decide +kernel)), by decide +kernel⟩
theorem fd_X4_11 : xFd RX4 11 4 0 RX4 TX4 5 := ⟨rfl, by decide, by decide, List.mem_filter.mpr ⟨List.mem_append_right _ (List.mem_of_getElem? (i := 147) (by decide +kernel)), by decide +kernel⟩, rfl, rfl, uw_X4⟩
theorem fd_X10_174 : xFd RX10 174 4 0 RX4 TX4 5 := ⟨rfl, by decide, by decide, List.mem_filter.mpr ⟨List.mem_append_right _ (List.mem_of_getElem? (i := 148) (by decide +kernel)), by decide +kernel⟩, rfl, rfl, uw_X4⟩
theorem fd_X11_169 : xFd RX11 169 4 0 RX4 TX4 5 := ⟨rfl, by decide, by decide, List.mem_filter.mpr ⟨List.mem_append_right _ (List.mem_of_getElem? (i := 149) (by decide +kernel)), by decide +kernel⟩, rfl, rfl, uw_X4⟩
theorem fd_X4_15 : xFd RX4 15 4 1 RX4 TX4 5 := ⟨rfl, by decide, by decide, List.mem_filter.mpr ⟨List.mem_append_right _ (List.mem_of_getElem? (i := 150) (by decide +kernel)), by decide +kernel⟩, rfl, rfl, uw_X4⟩
theorem fd_X11_174 : xFd RX11 174 4 1 RX4 TX4 5 := ⟨rfl, by decide, by decide, List.mem_filter.mpr ⟨List.mem_append_right _ (List.mem_of_getElem? (i := 151) (by decide +kernel)), by decide +kernel⟩, rfl, rfl, uw_X4⟩
theorem fd_X10_209 : xFd RX10 209 4 1 RX4 TX4 5 := ⟨rfl, by decide, by decide, List.mem_filter.mpr ⟨List.mem_append_right _ (List.mem_of_getElem? (i := 152) (by decide +kernel)), by decide +kernel⟩, rfl, rfl, uw_X4⟩
theorem fd_X4_18 : xFd RX4 18 4 2 RX4 TX4 5 := ⟨rfl, by decide, by decide, List.mem_filter.mpr ⟨List.mem_append_right _ (List.mem_of_getElem? (i := 153) (by decide +kernel)), by decide +kernel⟩, rfl, rfl, uw_X4⟩
theorem fd_X4_21 : xFd RX4 21 4 3 RX4 TX4 5 := ⟨rfl, by decide, by decide, List.mem_filter.mpr ⟨List.mem_append_right _ (List.mem_of_getElem? (i := 154) (by decide +kernel)), by decide +kernel⟩, rfl, rfl, uw_X4⟩
theorem fd_X4_24 : xFd RX4 24 4 4 RX4 TX4 5 := ⟨rfl, by decide, by decide, List.mem_filter.mpr ⟨List.mem_append_right _ (List.mem_of_getElem? (i := 155) (by decide +kernel)), by decide +kernel⟩, rfl, rfl, uw_X4⟩
theorem ln_X10_34 : xLn RX10 34 yX5_init "PacketToll" cX5_init 1 none 0 := ⟨by decide +kernel, in_X5, co_X5_init, ⟨by decide +kernel, by decide +kernel⟩, by decide +kernel, by decide⟩
theorem lj_X5_3 : Cond.methodLink RX5 3 objectInit ∈ xT := List.mem_filter.mpr ⟨List.mem_append_right _ (List.mem_of_getElem? (i := 172) (by decide +kernel)), by decide +kernel⟩
theorem fd_X5_9 : xFd RX5 9 5 0 RX5 TX5 9 := ⟨rfl, by decide, by decide, List.mem_filter.mpr ⟨List.mem_append_right _ (List.mem_of_getElem? (i := 173) (by decide +kernel)), by decide +kernel⟩, rfl, rfl, uw_X5⟩
theorem fd_X10_126 : xFd RX10 126 5 0 RX5 TX5 9 := ⟨rfl, by decide, by decide, List.mem_filter.mpr ⟨List.mem_append_right _ (List.mem_of_getElem? (i := 174) (by decide +kernel)), by decide +kernel⟩, rfl, rfl, uw_X5⟩
theorem fd_X11_180 : xFd RX11 180 5 0 RX5 TX5 9 := ⟨rfl, by decide, by decide, List.mem_filter.mpr ⟨List.mem_append_right _ (List.mem_of_getElem? (i := 175) (by decide +kernel)), by decide +kernel⟩, rfl, rfl, uw_X5⟩
theorem fd_X5_15 : xFd RX5 15 5 1 RX5 TX5 9 := ⟨rfl, by decide, by decide, List.mem_filter.mpr ⟨List.mem_append_right _ (List.mem_of_getElem? (i := 176) (by decide +kernel)), by decide +kernel⟩, rfl, rfl, uw_X5⟩
theorem fd_X10_151 : xFd RX10 151 5 1 RX5 TX5 9 := ⟨rfl, by decide, by decide, List.mem_filter.mpr ⟨List.mem_append_right _ (List.mem_of_getElem? (i := 177) (by decide +kernel)), by decide +kernel⟩, rfl, rfl, uw_X5⟩
theorem fd_X11_183 : xFd RX11 183 5 1 RX5 TX5 9 := ⟨rfl, by decide, by decide, List.mem_filter.mpr ⟨List.mem_append_right _ (List.mem_of_getElem? (i := 178) (by decide +kernel)), by decide +kernel⟩, rfl, rfl, uw_X5⟩
theorem fd_X5_18 : xFd RX5 18 5 2 RX5 TX5 9 := ⟨rfl, by decide, by decide, List.mem_filter.mpr ⟨List.mem_append_right _ (List.mem_of_getElem? (i := 179) (by decide +kernel)), by decide +kernel⟩, rfl, rfl, uw_X5⟩
theorem fd_X10_171 : xFd RX10 171 5 2 RX5 TX5 9 := ⟨rfl, by decide, by decide, List.mem_filter.mpr ⟨List.mem_append_right _ (List.mem_of_getElem? (i := 180) (by decide +kernel)), by decide +kernel⟩, rfl, rfl, uw_X5⟩
theorem fd_X11_186 : xFd RX11 186 5 2 RX5 TX5 9 := ⟨rfl, by decide, by decide, List.mem_filter.mpr ⟨List.mem_append_right _ (List.mem_of_getElem? (i := 181) (by decide +kernel)), by decide +kernel⟩, rfl, rfl, uw_X5⟩
theorem fd_X5_21 : xFd RX5 21 5 3 RX5 TX5 9 := ⟨rfl, by decide, by decide, List.mem_filter.mpr ⟨List.mem_append_right _ (List.mem_of_getElem? (i := 182) (by decide +kernel)), by decide +kernel⟩, rfl, rfl, uw_X5⟩
theorem fd_X10_123 : xFd RX10 123 5 3 RX5 TX5 9 := ⟨rfl, by decide, by decide, List.mem_filter.mpr ⟨List.mem_append_right _ (List.mem_of_getElem? (i := 183) (by decide +kernel)), by decide +kernel⟩, rfl, rfl, uw_X5⟩
theorem fd_X11_189 : xFd RX11 189 5 3 RX5 TX5 9 := ⟨rfl, by decide, by decide, List.mem_filter.mpr ⟨List.mem_append_right _ (List.mem_of_getElem? (i := 184) (by decide +kernel)), by decide +kernel⟩, rfl, rfl, uw_X5⟩
theorem fd_X5_24 : xFd RX5 24 5 4 RX5 TX5 9 := ⟨rfl, by decide, by decide, List.mem_filter.mpr ⟨List.mem_append_right _ (List.mem_of_getElem? (i := 185) (by decide +kernel)), by decide +kernel⟩, rfl, rfl, uw_X5⟩
theorem fd_X10_129 : xFd RX10 129 5 4 RX5 TX5 9 := ⟨rfl, by decide, by decide, List.mem_filter.mpr ⟨List.mem_append_right _ (List.mem_of_getElem? (i := 186) (by decide +kernel)), by decide +kernel⟩, rfl, rfl, uw_X5⟩
theorem fd_X5_27 : xFd RX5 27 5 5 RX5 TX5 9 := ⟨rfl, by decide, by decide, List.mem_filter.mpr ⟨List.mem_append_right _ (List.mem_of_getElem? (i := 187) (by decide +kernel)), by decide +kernel⟩, rfl, rfl, uw_X5⟩
theorem fd_X10_184 : xFd RX10 184 5 5 RX5 TX5 9 := ⟨rfl, by decide, by decide, List.mem_filter.mpr ⟨List.mem_append_right _ (List.mem_of_getElem? (i := 188) (by decide +kernel)), by decide +kernel⟩, rfl, rfl, uw_X5⟩
theorem fd_X5_30 : xFd RX5 30 5 6 RX5 TX5 9 := ⟨rfl, by decide, by decide, List.mem_filter.mpr ⟨List.mem_append_right _ (List.mem_of_getElem? (i := 189) (by decide +kernel)), by decide +kernel⟩, rfl, rfl, uw_X5⟩
theorem fd_X11_195 : xFd RX11 195 5 6 RX5 TX5 9 := ⟨rfl, by decide, by decide, List.mem_filter.mpr ⟨List.mem_append_right _ (List.mem_of_getElem? (i := 190) (by decide +kernel)), by decide +kernel⟩, rfl, rfl, uw_X5⟩
theorem fd_X10_221 : xFd RX10 221 5 6 RX5 TX5 9 := ⟨rfl, by decide, by decide, List.mem_filter.mpr ⟨List.mem_append_right _ (List.mem_of_getElem? (i := 191) (by decide +kernel)), by decide +kernel⟩, rfl, rfl, uw_X5⟩
theorem fd_X5_33 : xFd RX5 33 5 7 RX5 TX5 9 := ⟨rfl, by decide, by decide, List.mem_filter.mpr ⟨List.mem_append_right _ (List.mem_of_getElem? (i := 192) (by decide +kernel)), by decide +kernel⟩, rfl, rfl, uw_X5⟩
theorem fd_X11_198 : xFd RX11 198 5 7 RX5 TX5 9 := ⟨rfl, by decide, by decide, List.mem_filter.mpr ⟨List.mem_append_right _ (List.mem_of_getElem? (i := 193) (by decide +kernel)), by decide +kernel⟩, rfl, rfl, uw_X5⟩
theorem fd_X10_218 : xFd RX10 218 5 7 RX5 TX5 9 := ⟨rfl, by decide, by decide, List.mem_filter.mpr ⟨List.mem_append_right _ (List.mem_of_getElem? (i := 194) (by decide +kernel)), by decide +kernel⟩, rfl, rfl, uw_X5⟩
theorem fd_X5_36 : xFd RX5 36 5 8 RX5 TX5 9 := ⟨rfl, by decide, by decide, List.mem_filter.mpr ⟨List.mem_append_right _ (List.mem_of_getElem? (i := 195) (by decide +kernel)), by decide +kernel⟩, rfl, rfl, uw_X5⟩
theorem fd_X10_111 : xFd RX10 111 5 8 RX5 TX5 9 := ⟨rfl, by decide, by decide, List.mem_filter.mpr ⟨List.mem_append_right _ (List.mem_of_getElem? (i := 196) (by decide +kernel)), by decide +kernel⟩, rfl, rfl, uw_X5⟩
theorem fd_X11_78 : xFd RX11 78 5 8 RX5 TX5 9 := ⟨rfl, by decide, by decide, List.mem_filter.mpr ⟨List.mem_append_right _ (List.mem_of_getElem? (i := 197) (by decide +kernel)), by decide +kernel⟩, rfl, rfl, uw_X5⟩
theorem fd_X8_190 : xFd RX8 190 5 8 RX5 TX5 9 := ⟨rfl, by decide, by decide, List.mem_filter.mpr ⟨List.mem_append_right _ (List.mem_of_getElem? (i := 198) (by decide +kernel)), by decide +kernel⟩, rfl, rfl, uw_X5⟩
theorem ln_X10_41 : xLn RX10 41 yX0_init "PacketToll" cX0_init 1 none 0 := ⟨by decide +kernel, in_X0, co_X0_init, ⟨by decide +kernel, by decide +kernel⟩, by decide +kernel, by decide⟩
theorem lj_X0_3 : Cond.methodLink RX0 3 objectInit ∈ xT := List.mem_filter.mpr ⟨List.mem_append_right _ (List.mem_of_getElem? (i := 223) (by decide +kernel)), by decide +kernel⟩
theorem fd_X0_9 : xFd RX0 9 0 0 RX0 TX0 5 := ⟨rfl, by decide, by decide, List.mem_filter.mpr ⟨List.mem_append_right _ (List.mem_of_getElem? (i := 224) (by decide +kernel)), by decide +kernel⟩, rfl, rfl, uw_X0⟩
theorem fd_X11_204 : xFd RX11 204 0 0 RX0 TX0 5 := ⟨rfl, by decide, by decide, List.mem_filter.mpr ⟨List.mem_append_right _ (List.mem_of_getElem? (i := 225) (by decide +kernel)), by decide +kernel⟩, rfl, rfl, uw_X0⟩
theorem fd_X0_15 : xFd RX0 15 0 1 RX0 TX0 5 := ⟨rfl, by decide, by decide, List.mem_filter.mpr ⟨List.mem_append_right _ (List.mem_of_getElem? (i := 226) (by decide +kernel)), by decide +kernel⟩, rfl, rfl, uw_X0⟩
theorem fd_X11_205 : xFd RX11 205 0 1 RX0 TX0 5 := ⟨rfl, by decide, by decide, List.mem_filter.mpr ⟨List.mem_append_right _ (List.mem_of_getElem? (i := 227) (by decide +kernel)), by decide +kernel⟩, rfl, rfl, uw_X0⟩
theorem fd_X0_18 : xFd RX0 18 0 2 RX0 TX0 5 := ⟨rfl, by decide, by decide, List.mem_filter.mpr ⟨List.mem_append_right _ (List.mem_of_getElem? (i := 228) (by decide +kernel)), by decide +kernel⟩, rfl, rfl, uw_X0⟩
theorem fd_X10_159 : xFd RX10 159 0 2 RX0 TX0 5 := ⟨rfl, by decide, by decide, List.mem_filter.mpr ⟨List.mem_append_right _ (List.mem_of_getElem? (i := 229) (by decide +kernel)), by decide +kernel⟩, rfl, rfl, uw_X0⟩
theorem fd_X11_208 : xFd RX11 208 0 2 RX0 TX0 5 := ⟨rfl, by decide, by decide, List.mem_filter.mpr ⟨List.mem_append_right _ (List.mem_of_getElem? (i := 230) (by decide +kernel)), by decide +kernel⟩, rfl, rfl, uw_X0⟩
theorem fd_X0_21 : xFd RX0 21 0 3 RX0 TX0 5 := ⟨rfl, by decide, by decide, List.mem_filter.mpr ⟨List.mem_append_right _ (List.mem_of_getElem? (i := 231) (by decide +kernel)), by decide +kernel⟩, rfl, rfl, uw_X0⟩
theorem fd_X11_211 : xFd RX11 211 0 3 RX0 TX0 5 := ⟨rfl, by decide, by decide, List.mem_filter.mpr ⟨List.mem_append_right _ (List.mem_of_getElem? (i := 232) (by decide +kernel)), by decide +kernel⟩, rfl, rfl, uw_X0⟩
theorem fd_X0_24 : xFd RX0 24 0 4 RX0 TX0 5 := ⟨rfl, by decide, by decide, List.mem_filter.mpr ⟨List.mem_append_right _ (List.mem_of_getElem? (i := 233) (by decide +kernel)), by decide +kernel⟩, rfl, rfl, uw_X0⟩
theorem fd_X10_112 : xFd RX10 112 0 4 RX0 TX0 5 := ⟨rfl, by decide, by decide, List.mem_filter.mpr ⟨List.mem_append_right _ (List.mem_of_getElem? (i := 234) (by decide +kernel)), by decide +kernel⟩, rfl, rfl, uw_X0⟩
theorem fd_X11_104 : xFd RX11 104 0 4 RX0 TX0 5 := ⟨rfl, by decide, by decide, List.mem_filter.mpr ⟨List.mem_append_right _ (List.mem_of_getElem? (i := 235) (by decide +kernel)), by decide +kernel⟩, rfl, rfl, uw_X0⟩
theorem fd_X8_198 : xFd RX8 198 0 4 RX0 TX0 5 := ⟨rfl, by decide, by decide, List.mem_filter.mpr ⟨List.mem_append_right _ (List.mem_of_getElem? (i := 236) (by decide +kernel)), by decide +kernel⟩, rfl, rfl, uw_X0⟩
theorem ln_X10_48 : xLn RX10 48 yX6_init "PacketToll" cX6_init 1 none 0 := ⟨by decide +kernel, in_X6, co_X6_init, ⟨by decide +kernel, by decide +kernel⟩, by decide +kernel, by decide⟩
theorem lj_X6_3 : Cond.methodLink RX6 3 objectInit ∈ xT := List.mem_filter.mpr ⟨List.mem_append_right _ (List.mem_of_getElem? (i := 253) (by decide +kernel)), by decide +kernel⟩
theorem fd_X6_9 : xFd RX6 9 6 0 RX6 TX6 7 := ⟨rfl, by decide, by decide, List.mem_filter.mpr ⟨List.mem_append_right _ (List.mem_of_getElem? (i := 254) (by decide +kernel)), by decide +kernel⟩, rfl, rfl, uw_X6⟩
theorem fd_X6_15 : xFd RX6 15 6 1 RX6 TX6 7 := ⟨rfl, by decide, by decide, List.mem_filter.mpr ⟨List.mem_append_right _ (List.mem_of_getElem? (i := 255) (by decide +kernel)), by decide +kernel⟩, rfl, rfl, uw_X6⟩
theorem fd_X6_18 : xFd RX6 18 6 2 RX6 TX6 7 := ⟨rfl, by decide, by decide, List.mem_filter.mpr ⟨List.mem_append_right _ (List.mem_of_getElem? (i := 256) (by decide +kernel)), by decide +kernel⟩, rfl, rfl, uw_X6⟩
theorem fd_X6_21 : xFd RX6 21 6 3 RX6 TX6 7 := ⟨rfl, by decide, by decide, List.mem_filter.mpr ⟨List.mem_append_right _ (List.mem_of_getElem? (i := 257) (by decide +kernel)), by decide +kernel⟩, rfl, rfl, uw_X6⟩
theorem fd_X6_24 : xFd RX6 24 6 4 RX6 TX6 7 := ⟨rfl, by decide, by decide, List.mem_filter.mpr ⟨List.mem_append_right _ (List.mem_of_getElem? (i := 258) (by decide +kernel)), by decide +kernel⟩, rfl, rfl, uw_X6⟩
theorem fd_X6_27 : xFd RX6 27 6 5 RX6 TX6 7 := ⟨rfl, by decide, by decide, List.mem_filter.mpr ⟨List.mem_append_right _ (List.mem_of_getElem? (i := 259) (by decide +kernel)), by decide +kernel⟩, rfl, rfl, uw_X6⟩
theorem fd_X6_31 : xFd RX6 31 6 6 RX6 TX6 7 := ⟨rfl, by decide, by decide, List.mem_filter.mpr ⟨List.mem_append_right _ (List.mem_of_getElem? (i := 260) (by decide +kernel)), by decide +kernel⟩, rfl, rfl, uw_X6⟩
theorem lk_X10_55 : xLk RX10 55 yX7_init cX7_init 2 none 1 := ⟨List.mem_filter.mpr ⟨List.mem_append_right _ (List.mem_of_getElem? (i := 278) (by decide +kernel)), by decide +kernel⟩, in_X7, co_X7_init, ⟨by decide +kernel, by decide +kernel⟩, by decide +kernel, by decide⟩
theorem lj_X7_3 : Cond.methodLink RX7 3 objectInit ∈ xT := List.mem_filter.mpr ⟨List.mem_append_right _ (List.mem_of_getElem? (i := 281) (by decide +kernel)), by decide +kernel⟩
theorem fd_X7_15 : xFd RX7 15 7 0 RX7 TX7 2 := ⟨rfl, by decide, by decide, List.mem_filter.mpr ⟨List.mem_append_right _ (List.mem_of_getElem? (i := 282) (by decide +kernel)), by decide +kernel⟩, rfl, rfl, uw_X7⟩
theorem fd_X7_9 : xFd RX7 9 7 1 RX7 TX7 2 := ⟨rfl, by decide, by decide, List.mem_filter.mpr ⟨List.mem_append_right _ (List.mem_of_getElem? (i := 283) (by decide +kernel)), by decide +kernel⟩, rfl, rfl, uw_X7⟩
theorem fd_X10_12 : xFd RX10 12 10 0 RX10 TX10 15 := ⟨rfl, by decide, by decide, List.mem_filter.mpr ⟨List.mem_append_right _ (List.mem_of_getElem? (i := 290) (by decide +kernel)), by decide +kernel⟩, rfl, rfl, uw_X10⟩
theorem fd_X11_86 : xFd RX11 86 10 0 RX10 TX10 15 := ⟨rfl, by decide, by decide, List.mem_filter.mpr ⟨List.mem_append_right _ (List.mem_of_getElem? (i := 291) (by decide +kernel)), by decide +kernel⟩, rfl, rfl, uw_X10⟩
theorem fd_X8_145 : xFd RX8 145 10 0 RX10 TX10 15 := ⟨rfl, by decide, by decide, List.mem_filter.mpr ⟨List.mem_append_right _ (List.mem_of_getElem? (i := 292) (by decide +kernel)), by decide +kernel⟩, rfl, rfl, uw_X10⟩
theorem fd_X10_21 : xFd RX10 21 10 1 RX10 TX10 15 := ⟨rfl, by decide, by decide, List.mem_filter.mpr ⟨List.mem_append_right _ (List.mem_of_getElem? (i := 293) (by decide +kernel)), by decide +kernel⟩, rfl, rfl, uw_X10⟩
theorem fd_X11_93 : xFd RX11 93 10 1 RX10 TX10 15 := ⟨rfl, by decide, by decide, List.mem_filter.mpr ⟨List.mem_append_right _ (List.mem_of_getElem? (i := 294) (by decide +kernel)), by decide +kernel⟩, rfl, rfl, uw_X10⟩
theorem fd_X8_162 : xFd RX8 162 10 1 RX10 TX10 15 := ⟨rfl, by decide, by decide, List.mem_filter.mpr ⟨List.mem_append_right _ (List.mem_of_getElem? (i := 295) (by decide +kernel)), by decide +kernel⟩, rfl, rfl, uw_X10⟩
theorem fd_X10_28 : xFd RX10 28 10 2 RX10 TX10 15 := ⟨rfl, by decide, by decide, List.mem_filter.mpr ⟨List.mem_append_right _ (List.mem_of_getElem? (i := 296) (by decide +kernel)), by decide +kernel⟩, rfl, rfl, uw_X10⟩
theorem fd_X11_165 : xFd RX11 165 10 2 RX10 TX10 15 := ⟨rfl, by decide, by decide, List.mem_filter.mpr ⟨List.mem_append_right _ (List.mem_of_getElem? (i := 297) (by decide +kernel)), by decide +kernel⟩, rfl, rfl, uw_X10⟩
theorem fd_X10_35 : xFd RX10 35 10 3 RX10 TX10 15 := ⟨rfl, by decide, by decide, List.mem_filter.mpr ⟨List.mem_append_right _ (List.mem_of_getElem? (i := 298) (by decide +kernel)), by decide +kernel⟩, rfl, rfl, uw_X10⟩
theorem fd_X11_74 : xFd RX11 74 10 3 RX10 TX10 15 := ⟨rfl, by decide, by decide, List.mem_filter.mpr ⟨List.mem_append_right _ (List.mem_of_getElem? (i := 299) (by decide +kernel)), by decide +kernel⟩, rfl, rfl, uw_X10⟩
theorem fd_X8_186 : xFd RX8 186 10 3 RX10 TX10 15 := ⟨rfl, by decide, by decide, List.mem_filter.mpr ⟨List.mem_append_right _ (List.mem_of_getElem? (i := 300) (by decide +kernel)), by decide +kernel⟩, rfl, rfl, uw_X10⟩
theorem fd_X10_42 : xFd RX10 42 10 4 RX10 TX10 15 := ⟨rfl, by decide, by decide, List.mem_filter.mpr ⟨List.mem_append_right _ (List.mem_of_getElem? (i := 301) (by decide +kernel)), by decide +kernel⟩, rfl, rfl, uw_X10⟩
theorem fd_X11_100 : xFd RX11 100 10 4 RX10 TX10 15 := ⟨rfl, by decide, by decide, List.mem_filter.mpr ⟨List.mem_append_right _ (List.mem_of_getElem? (i := 302) (by decide +kernel)), by decide +kernel⟩, rfl, rfl, uw_X10⟩
theorem fd_X8_194 : xFd RX8 194 10 4 RX10 TX10 15 := ⟨rfl, by decide, by decide, List.mem_filter.mpr ⟨List.mem_append_right _ (List.mem_of_getElem? (i := 303) (by decide +kernel)), by decide +kernel⟩, rfl, rfl, uw_X10⟩
theorem fd_X10_49 : xFd RX10 49 10 5 RX10 TX10 15 := ⟨rfl, by decide, by decide, List.mem_filter.mpr ⟨List.mem_append_right _ (List.mem_of_getElem? (i := 304) (by decide +kernel)), by decide +kernel⟩, rfl, rfl, uw_X10⟩
theorem fd_X11_218 : xFd RX11 218 10 5 RX10 TX10 15 := ⟨rfl, by decide, by decide, List.mem_filter.mpr ⟨List.mem_append_right _ (List.mem_of_getElem? (i := 305) (by decide +kernel)), by decide +kernel⟩, rfl, rfl, uw_X10⟩
theorem fd_X10_58 : xFd RX10 58 10 6 RX10 TX10 15 := ⟨rfl, by decide, by decide, List.mem_filter.mpr ⟨List.mem_append_right _ (List.mem_of_getElem? (i := 306) (by decide +kernel)), by decide +kernel⟩, rfl, rfl, uw_X10⟩
theorem fd_X8_91 : xFd RX8 91 10 6 RX10 TX10 15 := ⟨rfl, by decide, by decide, List.mem_filter.mpr ⟨List.mem_append_right _ (List.mem_of_getElem? (i := 307) (by decide +kernel)), by decide +kernel⟩, rfl, rfl, uw_X10⟩
theorem fd_X10_98 : xFd RX10 98 10 7 RX10 TX10 15 := ⟨rfl, by decide, by decide, List.mem_filter.mpr ⟨List.mem_append_right _ (List.mem_of_getElem? (i := 308) (by decide +kernel)), by decide +kernel⟩, rfl, rfl, uw_X10⟩
theorem fd_X11_83 : xFd RX11 83 10 7 RX10 TX10 15 := ⟨rfl, by decide, by decide, List.mem_filter.mpr ⟨List.mem_append_right _ (List.mem_of_getElem? (i := 309) (by decide +kernel)), by decide +kernel⟩, rfl, rfl, uw_X10⟩
theorem fd_X10_62 : xFd RX10 62 10 8 RX10 TX10 15 := ⟨rfl, by decide, by decide, List.mem_filter.mpr ⟨List.mem_append_right _ (List.mem_of_getElem? (i := 310) (by decide +kernel)), by decide +kernel⟩, rfl, rfl, uw_X10⟩
theorem fd_X11_117 : xFd RX11 117 10 8 RX10 TX10 15 := ⟨rfl, by decide, by decide, List.mem_filter.mpr ⟨List.mem_append_right _ (List.mem_of_getElem? (i := 311) (by decide +kernel)), by decide +kernel⟩, rfl, rfl, uw_X10⟩
theorem fd_X8_131 : xFd RX8 131 10 8 RX10 TX10 15 := ⟨rfl, by decide, by decide, List.mem_filter.mpr ⟨List.mem_append_right _ (List.mem_of_getElem? (i := 312) (by decide +kernel)), by decide +kernel⟩, rfl, rfl, uw_X10⟩
theorem fd_X10_66 : xFd RX10 66 10 9 RX10 TX10 15 := ⟨rfl, by decide, by decide, List.mem_filter.mpr ⟨List.mem_append_right _ (List.mem_of_getElem? (i := 313) (by decide +kernel)), by decide +kernel⟩, rfl, rfl, uw_X10⟩
theorem fd_X8_135 : xFd RX8 135 10 9 RX10 TX10 15 := ⟨rfl, by decide, by decide, List.mem_filter.mpr ⟨List.mem_append_right _ (List.mem_of_getElem? (i := 314) (by decide +kernel)), by decide +kernel⟩, rfl, rfl, uw_X10⟩
theorem fd_X10_69 : xFd RX10 69 10 10 RX10 TX10 15 := ⟨rfl, by decide, by decide, List.mem_filter.mpr ⟨List.mem_append_right _ (List.mem_of_getElem? (i := 315) (by decide +kernel)), by decide +kernel⟩, rfl, rfl, uw_X10⟩
theorem fd_X8_138 : xFd RX8 138 10 10 RX10 TX10 15 := ⟨rfl, by decide, by decide, List.mem_filter.mpr ⟨List.mem_append_right _ (List.mem_of_getElem? (i := 316) (by decide +kernel)), by decide +kernel⟩, rfl, rfl, uw_X10⟩
theorem fd_X10_101 : xFd RX10 101 10 11 RX10 TX10 15 := ⟨rfl, by decide, by decide, List.mem_filter.mpr ⟨List.mem_append_right _ (List.mem_of_getElem? (i := 317) (by decide +kernel)), by decide +kernel⟩, rfl, rfl, uw_X10⟩
theorem fd_X11_111 : xFd RX11 111 10 11 RX10 TX10 15 := ⟨rfl, by decide, by decide, List.mem_filter.mpr ⟨List.mem_append_right _ (List.mem_of_getElem? (i := 318) (by decide +kernel)), by decide +kernel⟩, rfl, rfl, uw_X10⟩
theorem fd_X10_104 : xFd RX10 104 10 12 RX10 TX10 15 := ⟨rfl, by decide, by decide, List.mem_filter.mpr ⟨List.mem_append_right _ (List.mem_of_getElem? (i := 319) (by decide +kernel)), by decide +kernel⟩, rfl, rfl, uw_X10⟩
theorem fd_X11_114 : xFd RX11 114 10 12 RX10 TX10 15 := ⟨rfl, by decide, by decide, List.mem_filter.mpr ⟨List.mem_append_right _ (List.mem_of_getElem? (i := 320) (by decide +kernel)), by decide +kernel⟩, rfl, rfl, uw_X10⟩
theorem fd_X10_72 : xFd RX10 72 10 13 RX10 TX10 15 := ⟨rfl, by decide, by decide, List.mem_filter.mpr ⟨List.mem_append_right _ (List.mem_of_getElem? (i := 321) (by decide +kernel)), by decide +kernel⟩, rfl, rfl, uw_X10⟩
theorem fd_X11_239 : xFd RX11 239 10 13 RX10 TX10 15 := ⟨rfl, by decide, by decide, List.mem_filter.mpr ⟨List.mem_append_right _ (List.mem_of_getElem? (i := 322) (by decide +kernel)), by decide +kernel⟩, rfl, rfl, uw_X10⟩
theorem fd_X10_76 : xFd RX10 76 10 14 RX10 TX10 15 := ⟨rfl, by decide, by decide, List.mem_filter.mpr ⟨List.mem_append_right _ (List.mem_of_getElem? (i := 323) (by decide +kernel)), by decide +kernel⟩, rfl, rfl, uw_X10⟩
theorem fd_X11_242 : xFd RX11 242 10 14 RX10 TX10 15 := ⟨rfl, by decide, by decide, List.mem_filter.mpr ⟨List.mem_append_right _ (List.mem_of_getElem? (i := 324) (by decide +kernel)), by decide +kernel⟩, rfl, rfl, uw_X10⟩
theorem fd_X8_12 : xFd RX8 12 8 0 RX8 TX8 9 := ⟨rfl, by decide, by decide, List.mem_filter.mpr ⟨List.mem_append_right _ (List.mem_of_getElem? (i := 356) (by decide +kernel)), by decide +kernel⟩, rfl, rfl, uw_X8⟩
theorem fd_X11_37 : xFd RX11 37 8 0 RX8 TX8 9 := ⟨rfl, by decide, by decide, List.mem_filter.mpr ⟨List.mem_append_right _ (List.mem_of_getElem? (i := 357) (by decide +kernel)), by decide +kernel⟩, rfl, rfl, uw_X8⟩
theorem fd_X8_21 : xFd RX8 21 8 1 RX8 TX8 9 := ⟨rfl, by decide, by decide, List.mem_filter.mpr ⟨List.mem_append_right _ (List.mem_of_getElem? (i := 358) (by decide +kernel)), by decide +kernel⟩, rfl, rfl, uw_X8⟩
theorem fd_X11_68 : xFd RX11 68 8 1 RX8 TX8 9 := ⟨rfl, by decide, by decide, List.mem_filter.mpr ⟨List.mem_append_right _ (List.mem_of_getElem? (i := 359) (by decide +kernel)), by decide +kernel⟩, rfl, rfl, uw_X8⟩
theorem fd_X8_29 : xFd RX8 29 8 2 RX8 TX8 9 := ⟨rfl, by decide, by decide, List.mem_filter.mpr ⟨List.mem_append_right _ (List.mem_of_getElem? (i := 360) (by decide +kernel)), by decide +kernel⟩, rfl, rfl, uw_X8⟩
theorem fd_X11_61 : xFd RX11 61 8 2 RX8 TX8 9 := ⟨rfl, by decide, by decide, List.mem_filter.mpr ⟨List.mem_append_right _ (List.mem_of_getElem? (i := 361) (by decide +kernel)), by decide +kernel⟩, rfl, rfl, uw_X8⟩
theorem fd_X8_33 : xFd RX8 33 8 3 RX8 TX8 9 := ⟨rfl, by decide, by decide, List.mem_filter.mpr ⟨List.mem_append_right _ (List.mem_of_getElem? (i := 362) (by decide +kernel)), by decide +kernel⟩, rfl, rfl, uw_X8⟩
theorem fd_X11_60 : xFd RX11 60 8 3 RX8 TX8 9 := ⟨rfl, by decide, by decide, List.mem_filter.mpr ⟨List.mem_append_right _ (List.mem_of_getElem? (i := 363) (by decide +kernel)), by decide +kernel⟩, rfl, rfl, uw_X8⟩
theorem fd_X8_25 : xFd RX8 25 8 4 RX8 TX8 9 := ⟨rfl, by decide, by decide, List.mem_filter.mpr ⟨List.mem_append_right _ (List.mem_of_getElem? (i := 364) (by decide +kernel)), by decide +kernel⟩, rfl, rfl, uw_X8⟩
theorem fd_X8_77 : xFd RX8 77 8 5 RX8 TX8 9 := ⟨rfl, by decide, by decide, List.mem_filter.mpr ⟨List.mem_append_right _ (List.mem_of_getElem? (i := 365) (by decide +kernel)), by decide +kernel⟩, rfl, rfl, uw_X8⟩
theorem fd_X8_36 : xFd RX8 36 8 6 RX8 TX8 9 := ⟨rfl, by decide, by decide, List.mem_filter.mpr ⟨List.mem_append_right _ (List.mem_of_getElem? (i := 366) (by decide +kernel)), by decide +kernel⟩, rfl, rfl, uw_X8⟩
theorem fd_X8_40 : xFd RX8 40 8 7 RX8 TX8 9 := ⟨rfl, by decide, by decide, List.mem_filter.mpr ⟨List.mem_append_right _ (List.mem_of_getElem? (i := 367) (by decide +kernel)), by decide +kernel⟩, rfl, rfl, uw_X8⟩
theorem fd_X8_43 : xFd RX8 43 8 8 RX8 TX8 9 := ⟨rfl, by decide, by decide, List.mem_filter.mpr ⟨List.mem_append_right _ (List.mem_of_getElem? (i := 368) (by decide +kernel)), by decide +kernel⟩, rfl, rfl, uw_X8⟩
theorem ln_X11_18 : xLn RX11 18 yX10_init "PacketToll" cX10_init 1 none 0 := ⟨by decide +kernel, in_X10, co_X10_init, ⟨by decide +kernel, by decide +kernel⟩, by decide +kernel, by decide⟩
theorem lk_X11_28 : xLk RX11 28 yX3_init cX3_init 2 none 0 := ⟨List.mem_filter.mpr ⟨List.mem_append_right _ (List.mem_of_getElem? (i := 392) (by decide +kernel)), by decide +kernel⟩, in_X3, co_X3_init, ⟨by decide +kernel, by decide +kernel⟩, by decide +kernel, by decide⟩
theorem lj_X3_3 : Cond.methodLink RX3 3 objectInit ∈ xT := List.mem_filter.mpr ⟨List.mem_append_right _ (List.mem_of_getElem? (i := 395) (by decide +kernel)), by decide +kernel⟩
theorem ln_X3_17 : xLn RX3 17 yX10_init "PacketToll" cX10_init 1 none 0 := ⟨by decide +kernel, in_X10, co_X10_init, ⟨by decide +kernel, by decide +kernel⟩, by decide +kernel, by decide⟩
theorem fd_X3_11 : xFd RX3 11 3 0 RX3 TX3 3 := ⟨rfl, by decide, by decide, List.mem_filter.mpr ⟨List.mem_append_right _ (List.mem_of_getElem? (i := 399) (by decide +kernel)), by decide +kernel⟩, rfl, rfl, uw_X3⟩
theorem fd_X3_30 : xFd RX3 30 3 1 RX3 TX3 3 := ⟨rfl, by decide, by decide, List.mem_filter.mpr ⟨List.mem_append_right _ (List.mem_of_getElem? (i := 400) (by decide +kernel)), by decide +kernel⟩, rfl, rfl, uw_X3⟩
theorem fd_X3_18 : xFd RX3 18 3 2 RX3 TX3 3 := ⟨rfl, by decide, by decide, List.mem_filter.mpr ⟨List.mem_append_right _ (List.mem_of_getElem? (i := 401) (by decide +kernel)), by decide +kernel⟩, rfl, rfl, uw_X3⟩
theorem fd_X11_10 : xFd RX11 10 11 0 RX11 TX11 5 := ⟨rfl, by decide, by decide, List.mem_filter.mpr ⟨List.mem_append_right _ (List.mem_of_getElem? (i := 409) (by decide +kernel)), by decide +kernel⟩, rfl, rfl, uw_X11⟩
theorem fd_X11_19 : xFd RX11 19 11 1 RX11 TX11 5 := ⟨rfl, by decide, by decide, List.mem_filter.mpr ⟨List.mem_append_right _ (List.mem_of_getElem? (i := 410) (by decide +kernel)), by decide +kernel⟩, rfl, rfl, uw_X11⟩
theorem fd_X11_23 : xFd RX11 23 11 2 RX11 TX11 5 := ⟨rfl, by decide, by decide, List.mem_filter.mpr ⟨List.mem_append_right _ (List.mem_of_getElem? (i := 411) (by decide +kernel)), by decide +kernel⟩, rfl, rfl, uw_X11⟩
theorem fd_X11_29 : xFd RX11 29 11 3 RX11 TX11 5 := ⟨rfl, by decide, by decide, List.mem_filter.mpr ⟨List.mem_append_right _ (List.mem_of_getElem? (i := 412) (by decide +kernel)), by decide +kernel⟩, rfl, rfl, uw_X11⟩
theorem fd_X11_33 : xFd RX11 33 11 4 RX11 TX11 5 := ⟨rfl, by decide, by decide, List.mem_filter.mpr ⟨List.mem_append_right _ (List.mem_of_getElem? (i := 413) (by decide +kernel)), by decide +kernel⟩, rfl, rfl, uw_X11⟩
theorem lk_L_81 : xLk RL 81 yX11_append cX11_append 7 (some .int) 5 := ⟨List.mem_filter.mpr ⟨List.mem_append_right _ (List.mem_of_getElem? (i := 425) (by decide +kernel)), by decide +kernel⟩, in_X11, co_X11_append, ⟨by decide +kernel, by decide +kernel⟩, by decide +kernel, by decide⟩
theorem lk_X11_46 : xLk RX11 46 yX9_put cX9_put 3 none 1 := ⟨List.mem_filter.mpr ⟨List.mem_append_right _ (List.mem_of_getElem? (i := 429) (by decide +kernel)), by decide +kernel⟩, in_X9, co_X9_put, ⟨by decide +kernel, by decide +kernel⟩, by decide +kernel, by decide⟩
theorem lk_L_96 : xLk RL 96 yX11_errorOffset cX11_errorOffset 1 (some .int) 0 := ⟨List.mem_filter.mpr ⟨List.mem_append_right _ (List.mem_of_getElem? (i := 433) (by decide +kernel)), by decide +kernel⟩, in_X11, co_X11_errorOffset, ⟨by decide +kernel, by decide +kernel⟩, by decide +kernel, by decide⟩
theorem lk_L_156 : xLk RL 156 yX11_undo cX11_undo 1 (some .int) 0 := ⟨List.mem_filter.mpr ⟨List.mem_append_right _ (List.mem_of_getElem? (i := 437) (by decide +kernel)), by decide +kernel⟩, in_X11, co_X11_undo, ⟨by decide +kernel, by decide +kernel⟩, by decide +kernel, by decide⟩
theorem lk_X11_256 : xLk RX11 256 yX3_takeBack cX3_takeBack 4 (some .int) 1 := ⟨List.mem_filter.mpr ⟨List.mem_append_right _ (List.mem_of_getElem? (i := 441) (by decide +kernel)), by decide +kernel⟩, in_X3, co_X3_takeBack, ⟨by decide +kernel, by decide +kernel⟩, by decide +kernel, by decide⟩
theorem lk_X3_22 : xLk RX3 22 yX3_at cX3_at 2 (some (.object "PacketToll$World")) 1 := ⟨List.mem_filter.mpr ⟨List.mem_append_right _ (List.mem_of_getElem? (i := 445) (by decide +kernel)), by decide +kernel⟩, in_X3, co_X3_at, ⟨by decide +kernel, by decide +kernel⟩, by decide +kernel, by decide⟩
theorem lk_X3_26 : xLk RX3 26 yX10_copyFrom cX10_copyFrom 2 none 1 := ⟨List.mem_filter.mpr ⟨List.mem_append_right _ (List.mem_of_getElem? (i := 449) (by decide +kernel)), by decide +kernel⟩, in_X10, co_X10_copyFrom, ⟨by decide +kernel, by decide +kernel⟩, by decide +kernel, by decide⟩
theorem lk_X10_79 : xLk RX10 79 yX2_copyFrom cX2_copyFrom 2 none 1 := ⟨List.mem_filter.mpr ⟨List.mem_append_right _ (List.mem_of_getElem? (i := 453) (by decide +kernel)), by decide +kernel⟩, in_X2, co_X2_copyFrom, ⟨by decide +kernel, by decide +kernel⟩, by decide +kernel, by decide⟩
theorem ln_X2_25 : xLn RX2 25 yX11_copyRow "PacketToll" cX11_copyRow 3 none 3 := ⟨by decide +kernel, in_X11, co_X11_copyRow, ⟨by decide +kernel, by decide +kernel⟩, by decide +kernel, by decide⟩
theorem lj_X11_287 : Cond.methodLink RX11 287 arraycopyName ∈ xT := List.mem_filter.mpr ⟨List.mem_append_right _ (List.mem_of_getElem? (i := 460) (by decide +kernel)), by decide +kernel⟩
theorem lk_X10_83 : xLk RX10 83 yX1_copyFrom cX1_copyFrom 2 none 1 := ⟨List.mem_filter.mpr ⟨List.mem_append_right _ (List.mem_of_getElem? (i := 463) (by decide +kernel)), by decide +kernel⟩, in_X1, co_X1_copyFrom, ⟨by decide +kernel, by decide +kernel⟩, by decide +kernel, by decide⟩
theorem ln_X1_28 : xLn RX1 28 yX11_copyRow "PacketToll" cX11_copyRow 3 none 3 := ⟨by decide +kernel, in_X11, co_X11_copyRow, ⟨by decide +kernel, by decide +kernel⟩, by decide +kernel, by decide⟩
theorem lk_X10_86 : xLk RX10 86 yX4_copyFrom cX4_copyFrom 2 none 1 := ⟨List.mem_filter.mpr ⟨List.mem_append_right _ (List.mem_of_getElem? (i := 468) (by decide +kernel)), by decide +kernel⟩, in_X4, co_X4_copyFrom, ⟨by decide +kernel, by decide +kernel⟩, by decide +kernel, by decide⟩
theorem ln_X4_27 : xLn RX4 27 yX11_copyRow "PacketToll" cX11_copyRow 3 none 3 := ⟨by decide +kernel, in_X11, co_X11_copyRow, ⟨by decide +kernel, by decide +kernel⟩, by decide +kernel, by decide⟩
theorem lk_X10_89 : xLk RX10 89 yX5_copyFrom cX5_copyFrom 2 none 1 := ⟨List.mem_filter.mpr ⟨List.mem_append_right _ (List.mem_of_getElem? (i := 473) (by decide +kernel)), by decide +kernel⟩, in_X5, co_X5_copyFrom, ⟨by decide +kernel, by decide +kernel⟩, by decide +kernel, by decide⟩
theorem ln_X5_40 : xLn RX5 40 yX11_copyRow "PacketToll" cX11_copyRow 3 none 3 := ⟨by decide +kernel, in_X11, co_X11_copyRow, ⟨by decide +kernel, by decide +kernel⟩, by decide +kernel, by decide⟩
theorem lk_X10_92 : xLk RX10 92 yX0_copyFrom cX0_copyFrom 2 none 1 := ⟨List.mem_filter.mpr ⟨List.mem_append_right _ (List.mem_of_getElem? (i := 478) (by decide +kernel)), by decide +kernel⟩, in_X0, co_X0_copyFrom, ⟨by decide +kernel, by decide +kernel⟩, by decide +kernel, by decide⟩
theorem ln_X0_28 : xLn RX0 28 yX11_copyRow "PacketToll" cX11_copyRow 3 none 3 := ⟨by decide +kernel, in_X11, co_X11_copyRow, ⟨by decide +kernel, by decide +kernel⟩, by decide +kernel, by decide⟩
theorem lk_X10_95 : xLk RX10 95 yX6_copyFrom cX6_copyFrom 2 none 1 := ⟨List.mem_filter.mpr ⟨List.mem_append_right _ (List.mem_of_getElem? (i := 483) (by decide +kernel)), by decide +kernel⟩, in_X6, co_X6_copyFrom, ⟨by decide +kernel, by decide +kernel⟩, by decide +kernel, by decide⟩
theorem ln_X6_34 : xLn RX6 34 yX11_copyRow "PacketToll" cX11_copyRow 3 none 3 := ⟨by decide +kernel, in_X11, co_X11_copyRow, ⟨by decide +kernel, by decide +kernel⟩, by decide +kernel, by decide⟩
theorem lk_L_160 : xLk RL 160 yX11_checksum cX11_checksum 5 (some .long) 0 := ⟨List.mem_filter.mpr ⟨List.mem_append_right _ (List.mem_of_getElem? (i := 488) (by decide +kernel)), by decide +kernel⟩, in_X11, co_X11_checksum, ⟨by decide +kernel, by decide +kernel⟩, by decide +kernel, by decide⟩
theorem lk_X11_262 : xLk RX11 262 yX11_state cX11_state 2 (some .int) 1 := ⟨List.mem_filter.mpr ⟨List.mem_append_right _ (List.mem_of_getElem? (i := 493) (by decide +kernel)), by decide +kernel⟩, in_X11, co_X11_state, ⟨by decide +kernel, by decide +kernel⟩, by decide +kernel, by decide⟩
theorem lk_X11_107 : xLk RX11 107 yX5_countIn cX5_countIn 4 (some .int) 1 := ⟨List.mem_filter.mpr ⟨List.mem_append_right _ (List.mem_of_getElem? (i := 497) (by decide +kernel)), by decide +kernel⟩, in_X5, co_X5_countIn, ⟨by decide +kernel, by decide +kernel⟩, by decide +kernel, by decide⟩
theorem lk_X11_264 : xLk RX11 264 yX11_flow cX11_flow 3 (some .int) 2 := ⟨List.mem_filter.mpr ⟨List.mem_append_right _ (List.mem_of_getElem? (i := 569) (by decide +kernel)), by decide +kernel⟩, in_X11, co_X11_flow, ⟨by decide +kernel, by decide +kernel⟩, by decide +kernel, by decide⟩
theorem lk_X11_135 : xLk RX11 135 yX11_checkFlow cX11_checkFlow 2 none 1 := ⟨List.mem_filter.mpr ⟨List.mem_append_right _ (List.mem_of_getElem? (i := 573) (by decide +kernel)), by decide +kernel⟩, in_X11, co_X11_checkFlow, ⟨by decide +kernel, by decide +kernel⟩, by decide +kernel, by decide⟩
theorem lk_X11_147 : xLk RX11 147 yX0_countOf cX0_countOf 4 (some .int) 1 := ⟨List.mem_filter.mpr ⟨List.mem_append_right _ (List.mem_of_getElem? (i := 593) (by decide +kernel)), by decide +kernel⟩, in_X0, co_X0_countOf, ⟨by decide +kernel, by decide +kernel⟩, by decide +kernel, by decide⟩
theorem lk_X11_150 : xLk RX11 150 yX0_sumOf cX0_sumOf 4 (some .int) 1 := ⟨List.mem_filter.mpr ⟨List.mem_append_right _ (List.mem_of_getElem? (i := 597) (by decide +kernel)), by decide +kernel⟩, in_X0, co_X0_sumOf, ⟨by decide +kernel, by decide +kernel⟩, by decide +kernel, by decide⟩
theorem lk_X11_153 : xLk RX11 153 yX5_deliveredSizeOf cX5_deliveredSizeOf 4 (some .int) 1 := ⟨List.mem_filter.mpr ⟨List.mem_append_right _ (List.mem_of_getElem? (i := 601) (by decide +kernel)), by decide +kernel⟩, in_X5, co_X5_deliveredSizeOf, ⟨by decide +kernel, by decide +kernel⟩, by decide +kernel, by decide⟩
theorem lk_X11_266 : xLk RX11 266 yX11_packet cX11_packet 3 (some .int) 2 := ⟨List.mem_filter.mpr ⟨List.mem_append_right _ (List.mem_of_getElem? (i := 605) (by decide +kernel)), by decide +kernel⟩, in_X11, co_X11_packet, ⟨by decide +kernel, by decide +kernel⟩, by decide +kernel, by decide⟩
theorem lk_X11_177 : xLk RX11 177 yX11_checkPacket cX11_checkPacket 2 none 1 := ⟨List.mem_filter.mpr ⟨List.mem_append_right _ (List.mem_of_getElem? (i := 609) (by decide +kernel)), by decide +kernel⟩, in_X11, co_X11_checkPacket, ⟨by decide +kernel, by decide +kernel⟩, by decide +kernel, by decide⟩
theorem lk_X11_192 : xLk RX11 192 yX10_gateOf cX10_gateOf 4 (some .int) 1 := ⟨List.mem_filter.mpr ⟨List.mem_append_right _ (List.mem_of_getElem? (i := 614) (by decide +kernel)), by decide +kernel⟩, in_X10, co_X10_gateOf, ⟨by decide +kernel, by decide +kernel⟩, by decide +kernel, by decide⟩
theorem lk_X10_132 : xLk RX10 132 yX1_gateAt cX1_gateAt 3 (some .int) 2 := ⟨List.mem_filter.mpr ⟨List.mem_append_right _ (List.mem_of_getElem? (i := 618) (by decide +kernel)), by decide +kernel⟩, in_X1, co_X1_gateAt, ⟨by decide +kernel, by decide +kernel⟩, by decide +kernel, by decide⟩
theorem lk_X11_269 : xLk RX11 269 yX11_coupon cX11_coupon 3 (some .int) 2 := ⟨List.mem_filter.mpr ⟨List.mem_append_right _ (List.mem_of_getElem? (i := 622) (by decide +kernel)), by decide +kernel⟩, in_X11, co_X11_coupon, ⟨by decide +kernel, by decide +kernel⟩, by decide +kernel, by decide⟩
theorem lk_X11_201 : xLk RX11 201 yX11_checkCoupon cX11_checkCoupon 2 none 1 := ⟨List.mem_filter.mpr ⟨List.mem_append_right _ (List.mem_of_getElem? (i := 626) (by decide +kernel)), by decide +kernel⟩, in_X11, co_X11_checkCoupon, ⟨by decide +kernel, by decide +kernel⟩, by decide +kernel, by decide⟩
theorem lk_X11_272 : xLk RX11 272 yX11_tokens cX11_tokens 3 (some .int) 2 := ⟨List.mem_filter.mpr ⟨List.mem_append_right _ (List.mem_of_getElem? (i := 631) (by decide +kernel)), by decide +kernel⟩, in_X11, co_X11_tokens, ⟨by decide +kernel, by decide +kernel⟩, by decide +kernel, by decide⟩
theorem lk_X11_122 : xLk RX11 122 yX11_checkGate cX11_checkGate 2 none 1 := ⟨List.mem_filter.mpr ⟨List.mem_append_right _ (List.mem_of_getElem? (i := 635) (by decide +kernel)), by decide +kernel⟩, in_X11, co_X11_checkGate, ⟨by decide +kernel, by decide +kernel⟩, by decide +kernel, by decide⟩
theorem lk_X11_274 : xLk RX11 274 yX11_queue cX11_queue 3 (some .int) 2 := ⟨List.mem_filter.mpr ⟨List.mem_append_right _ (List.mem_of_getElem? (i := 640) (by decide +kernel)), by decide +kernel⟩, in_X11, co_X11_queue, ⟨by decide +kernel, by decide +kernel⟩, by decide +kernel, by decide⟩
theorem lk_L_7 : xLk RL 7 yX11_load cX11_load 2 (some .int) 1 := ⟨List.mem_filter.mpr ⟨List.mem_append_right _ (List.mem_of_getElem? (i := 648) (by decide +kernel)), by decide +kernel⟩, in_X11, co_X11_load, ⟨by decide +kernel, by decide +kernel⟩, by decide +kernel, by decide⟩
theorem lk_X11_57 : xLk RX11 57 yX8_read cX8_read 3 none 1 := ⟨List.mem_filter.mpr ⟨List.mem_append_right _ (List.mem_of_getElem? (i := 653) (by decide +kernel)), by decide +kernel⟩, in_X8, co_X8_read, ⟨by decide +kernel, by decide +kernel⟩, by decide +kernel, by decide⟩
theorem lk_X8_46 : xLk RX8 46 yX10_clear cX10_clear 1 none 0 := ⟨List.mem_filter.mpr ⟨List.mem_append_right _ (List.mem_of_getElem? (i := 657) (by decide +kernel)), by decide +kernel⟩, in_X10, co_X10_clear, ⟨by decide +kernel, by decide +kernel⟩, by decide +kernel, by decide⟩
theorem lk_X10_113 : xLk RX10 113 yX6_clear cX6_clear 1 none 0 := ⟨List.mem_filter.mpr ⟨List.mem_append_right _ (List.mem_of_getElem? (i := 661) (by decide +kernel)), by decide +kernel⟩, in_X6, co_X6_clear, ⟨by decide +kernel, by decide +kernel⟩, by decide +kernel, by decide⟩
theorem lk_X8_49 : xLk RX8 49 yX9_open cX9_open 2 none 1 := ⟨List.mem_filter.mpr ⟨List.mem_append_right _ (List.mem_of_getElem? (i := 665) (by decide +kernel)), by decide +kernel⟩, in_X9, co_X9_open, ⟨by decide +kernel, by decide +kernel⟩, by decide +kernel, by decide⟩
theorem lj_X9_19 : Cond.methodLink RX9 19 Lib.Math.min.name ∈ xT := List.mem_filter.mpr ⟨List.mem_append_right _ (List.mem_of_getElem? (i := 669) (by decide +kernel)), by decide +kernel⟩
theorem lk_X9_31 : xLk RX9 31 yX9_moveOn cX9_moveOn 1 none 0 := ⟨List.mem_filter.mpr ⟨List.mem_append_right _ (List.mem_of_getElem? (i := 672) (by decide +kernel)), by decide +kernel⟩, in_X9, co_X9_moveOn, ⟨by decide +kernel, by decide +kernel⟩, by decide +kernel, by decide⟩
theorem lk_X8_55 : xLk RX8 55 yX9_isWord cX9_isWord 3 (some .boolean) 1 := ⟨List.mem_filter.mpr ⟨List.mem_append_right _ (List.mem_of_getElem? (i := 678) (by decide +kernel)), by decide +kernel⟩, in_X9, co_X9_isWord, ⟨by decide +kernel, by decide +kernel⟩, by decide +kernel, by decide⟩
theorem lk_X9_44 : xLk RX9 44 yJ0_length_8abf5 cJ0_length_8abf5 1 (some .int) 0 := ⟨List.mem_filter.mpr ⟨List.mem_append_right _ (List.mem_of_getElem? (i := 682) (by decide +kernel)), by decide +kernel⟩, in_J0, co_J0_length_8abf5, ⟨by decide +kernel, by decide +kernel⟩, by decide +kernel, by decide⟩
theorem lk_J0_335 : xLk RJ0 335 yJ0_coder_7d493 cJ0_coder_7d493 1 (some .byte) 0 := ⟨List.mem_filter.mpr ⟨List.mem_append_right _ (List.mem_of_getElem? (i := 686) (by decide +kernel)), by decide +kernel⟩, in_J0, co_J0_coder_7d493, ⟨by decide +kernel, by decide +kernel⟩, by decide +kernel, by decide⟩
theorem lk_X9_50 : xLk RX9 50 yJ0_charAt_5068e cJ0_charAt_5068e 2 (some .char) 1 := ⟨List.mem_filter.mpr ⟨List.mem_append_right _ (List.mem_of_getElem? (i := 692) (by decide +kernel)), by decide +kernel⟩, in_J0, co_J0_charAt_5068e, ⟨by decide +kernel, by decide +kernel⟩, by decide +kernel, by decide⟩
theorem lk_J0_492 : xLk RJ0 492 yJ0_isLatin1_aae02 cJ0_isLatin1_aae02 1 (some .boolean) 0 := ⟨List.mem_filter.mpr ⟨List.mem_append_right _ (List.mem_of_getElem? (i := 696) (by decide +kernel)), by decide +kernel⟩, in_J0, co_J0_isLatin1_aae02, ⟨by decide +kernel, by decide +kernel⟩, by decide +kernel, by decide⟩
theorem lk_J0_495 : xLk RJ0 495 yJ1_charAt_3b067 cJ1_charAt_3b067 2 (some .char) 2 := ⟨List.mem_filter.mpr ⟨List.mem_append_right _ (List.mem_of_getElem? (i := 700) (by decide +kernel)), by decide +kernel⟩, in_J1, co_J1_charAt_3b067, ⟨by decide +kernel, by decide +kernel⟩, by decide +kernel, by decide⟩
theorem lk_J1_9 : xLk RJ1 9 yJ0_checkIndex_df160 cJ0_checkIndex_df160 2 none 2 := ⟨List.mem_filter.mpr ⟨List.mem_append_right _ (List.mem_of_getElem? (i := 703) (by decide +kernel)), by decide +kernel⟩, in_J0, co_J0_checkIndex_df160, ⟨by decide +kernel, by decide +kernel⟩, by decide +kernel, by decide⟩
theorem lk_J0_1059 : xLk RJ0 1059 yJ3_checkIndex_8e157 cJ3_checkIndex_8e157 3 (some .int) 3 := ⟨List.mem_filter.mpr ⟨List.mem_append_right _ (List.mem_of_getElem? (i := 708) (by decide +kernel)), by decide +kernel⟩, in_J3, co_J3_checkIndex_8e157, ⟨by decide +kernel, by decide +kernel⟩, by decide +kernel, by decide⟩
theorem lk_J0_498 : xLk RJ0 498 yJ2_charAt_3b067 cJ2_charAt_3b067 2 (some .char) 2 := ⟨List.mem_filter.mpr ⟨List.mem_append_right _ (List.mem_of_getElem? (i := 711) (by decide +kernel)), by decide +kernel⟩, in_J2, co_J2_charAt_3b067, ⟨by decide +kernel, by decide +kernel⟩, by decide +kernel, by decide⟩
theorem lk_J2_67 : xLk RJ2 67 yJ2_checkIndex_2214a cJ2_checkIndex_2214a 2 none 2 := ⟨List.mem_filter.mpr ⟨List.mem_append_right _ (List.mem_of_getElem? (i := 714) (by decide +kernel)), by decide +kernel⟩, in_J2, co_J2_checkIndex_2214a, ⟨by decide +kernel, by decide +kernel⟩, by decide +kernel, by decide⟩
theorem lk_J2_48 : xLk RJ2 48 yJ2_length_9d52b cJ2_length_9d52b 1 (some .int) 1 := ⟨List.mem_filter.mpr ⟨List.mem_append_right _ (List.mem_of_getElem? (i := 717) (by decide +kernel)), by decide +kernel⟩, in_J2, co_J2_length_9d52b, ⟨by decide +kernel, by decide +kernel⟩, by decide +kernel, by decide⟩
theorem lk_J2_414 : xLk RJ2 414 yJ0_checkIndex_df160 cJ0_checkIndex_df160 2 none 2 := ⟨List.mem_filter.mpr ⟨List.mem_append_right _ (List.mem_of_getElem? (i := 720) (by decide +kernel)), by decide +kernel⟩, in_J0, co_J0_checkIndex_df160, ⟨by decide +kernel, by decide +kernel⟩, by decide +kernel, by decide⟩
theorem lk_J2_71 : xLk RJ2 71 yJ2_getChar_3b067 cJ2_getChar_3b067 2 (some .char) 2 := ⟨List.mem_filter.mpr ⟨List.mem_append_right _ (List.mem_of_getElem? (i := 721) (by decide +kernel)), by decide +kernel⟩, in_J2, co_J2_getChar_3b067, ⟨by decide +kernel, by decide +kernel⟩, by decide +kernel, by decide⟩
theorem lk_X8_59 : xLk RX8 59 yX9_moveOn cX9_moveOn 1 none 0 := ⟨List.mem_filter.mpr ⟨List.mem_append_right _ (List.mem_of_getElem? (i := 730) (by decide +kernel)), by decide +kernel⟩, in_X9, co_X9_moveOn, ⟨by decide +kernel, by decide +kernel⟩, by decide +kernel, by decide⟩
theorem lk_X8_62 : xLk RX8 62 yX8_takeSign cX8_takeSign 2 none 1 := ⟨List.mem_filter.mpr ⟨List.mem_append_right _ (List.mem_of_getElem? (i := 731) (by decide +kernel)), by decide +kernel⟩, in_X8, co_X8_takeSign, ⟨by decide +kernel, by decide +kernel⟩, by decide +kernel, by decide⟩
theorem lk_X8_65 : xLk RX8 65 yX8_fail cX8_fail 2 none 1 := ⟨List.mem_filter.mpr ⟨List.mem_append_right _ (List.mem_of_getElem? (i := 735) (by decide +kernel)), by decide +kernel⟩, in_X8, co_X8_fail, ⟨by decide +kernel, by decide +kernel⟩, by decide +kernel, by decide⟩
theorem lk_X8_71 : xLk RX8 71 yX8_readStatement cX8_readStatement 1 none 0 := ⟨List.mem_filter.mpr ⟨List.mem_append_right _ (List.mem_of_getElem? (i := 739) (by decide +kernel)), by decide +kernel⟩, in_X8, co_X8_readStatement, ⟨by decide +kernel, by decide +kernel⟩, by decide +kernel, by decide⟩
theorem lk_X8_107 : xLk RX8 107 yX8_readGate cX8_readGate 4 none 0 := ⟨List.mem_filter.mpr ⟨List.mem_append_right _ (List.mem_of_getElem? (i := 744) (by decide +kernel)), by decide +kernel⟩, in_X8, co_X8_readGate, ⟨by decide +kernel, by decide +kernel⟩, by decide +kernel, by decide⟩
theorem lk_X8_154 : xLk RX8 154 yX8_takeCounted cX8_takeCounted 3 none 2 := ⟨List.mem_filter.mpr ⟨List.mem_append_right _ (List.mem_of_getElem? (i := 748) (by decide +kernel)), by decide +kernel⟩, in_X8, co_X8_takeCounted, ⟨by decide +kernel, by decide +kernel⟩, by decide +kernel, by decide⟩
theorem lk_X8_127 : xLk RX8 127 yX8_takeNumber cX8_takeNumber 4 (some .int) 2 := ⟨List.mem_filter.mpr ⟨List.mem_append_right _ (List.mem_of_getElem? (i := 752) (by decide +kernel)), by decide +kernel⟩, in_X8, co_X8_takeNumber, ⟨by decide +kernel, by decide +kernel⟩, by decide +kernel, by decide⟩
theorem lk_X8_101 : xLk RX8 101 yX8_numberStands cX8_numberStands 3 (some .boolean) 2 := ⟨List.mem_filter.mpr ⟨List.mem_append_right _ (List.mem_of_getElem? (i := 756) (by decide +kernel)), by decide +kernel⟩, in_X8, co_X8_numberStands, ⟨by decide +kernel, by decide +kernel⟩, by decide +kernel, by decide⟩
theorem lk_X8_158 : xLk RX8 158 yX2_add cX2_add 4 none 3 := ⟨List.mem_filter.mpr ⟨List.mem_append_right _ (List.mem_of_getElem? (i := 760) (by decide +kernel)), by decide +kernel⟩, in_X2, co_X2_add, ⟨by decide +kernel, by decide +kernel⟩, by decide +kernel, by decide⟩
theorem lk_X8_112 : xLk RX8 112 yX8_readFlow cX8_readFlow 2 none 0 := ⟨List.mem_filter.mpr ⟨List.mem_append_right _ (List.mem_of_getElem? (i := 765) (by decide +kernel)), by decide +kernel⟩, in_X8, co_X8_readFlow, ⟨by decide +kernel, by decide +kernel⟩, by decide +kernel, by decide⟩
theorem lk_X8_169 : xLk RX8 169 yX1_open cX1_open 1 none 0 := ⟨List.mem_filter.mpr ⟨List.mem_append_right _ (List.mem_of_getElem? (i := 769) (by decide +kernel)), by decide +kernel⟩, in_X1, co_X1_open, ⟨by decide +kernel, by decide +kernel⟩, by decide +kernel, by decide⟩
theorem lk_X8_171 : xLk RX8 171 yX8_readPlace cX8_readPlace 2 none 1 := ⟨List.mem_filter.mpr ⟨List.mem_append_right _ (List.mem_of_getElem? (i := 773) (by decide +kernel)), by decide +kernel⟩, in_X8, co_X8_readPlace, ⟨by decide +kernel, by decide +kernel⟩, by decide +kernel, by decide⟩
theorem lk_X8_179 : xLk RX8 179 yX1_openRouteHas cX1_openRouteHas 3 (some .boolean) 1 := ⟨List.mem_filter.mpr ⟨List.mem_append_right _ (List.mem_of_getElem? (i := 777) (by decide +kernel)), by decide +kernel⟩, in_X1, co_X1_openRouteHas, ⟨by decide +kernel, by decide +kernel⟩, by decide +kernel, by decide⟩
theorem lk_X1_32 : xLk RX1 32 yX1_gateAt cX1_gateAt 3 (some .int) 2 := ⟨List.mem_filter.mpr ⟨List.mem_append_right _ (List.mem_of_getElem? (i := 781) (by decide +kernel)), by decide +kernel⟩, in_X1, co_X1_gateAt, ⟨by decide +kernel, by decide +kernel⟩, by decide +kernel, by decide⟩
theorem lk_X8_183 : xLk RX8 183 yX1_addPlace cX1_addPlace 2 none 1 := ⟨List.mem_filter.mpr ⟨List.mem_append_right _ (List.mem_of_getElem? (i := 782) (by decide +kernel)), by decide +kernel⟩, in_X1, co_X1_addPlace, ⟨by decide +kernel, by decide +kernel⟩, by decide +kernel, by decide⟩
theorem lk_X8_176 : xLk RX8 176 yX1_close cX1_close 2 none 1 := ⟨List.mem_filter.mpr ⟨List.mem_append_right _ (List.mem_of_getElem? (i := 787) (by decide +kernel)), by decide +kernel⟩, in_X1, co_X1_close, ⟨by decide +kernel, by decide +kernel⟩, by decide +kernel, by decide⟩
theorem lk_X8_117 : xLk RX8 117 yX8_readPacket cX8_readPacket 4 none 0 := ⟨List.mem_filter.mpr ⟨List.mem_append_right _ (List.mem_of_getElem? (i := 792) (by decide +kernel)), by decide +kernel⟩, in_X8, co_X8_readPacket, ⟨by decide +kernel, by decide +kernel⟩, by decide +kernel, by decide⟩
theorem lk_X8_193 : xLk RX8 193 yX5_add cX5_add 4 none 3 := ⟨List.mem_filter.mpr ⟨List.mem_append_right _ (List.mem_of_getElem? (i := 796) (by decide +kernel)), by decide +kernel⟩, in_X5, co_X5_add, ⟨by decide +kernel, by decide +kernel⟩, by decide +kernel, by decide⟩
theorem lk_X8_122 : xLk RX8 122 yX8_readCoupon cX8_readCoupon 4 none 0 := ⟨List.mem_filter.mpr ⟨List.mem_append_right _ (List.mem_of_getElem? (i := 801) (by decide +kernel)), by decide +kernel⟩, in_X8, co_X8_readCoupon, ⟨by decide +kernel, by decide +kernel⟩, by decide +kernel, by decide⟩
theorem lk_X8_201 : xLk RX8 201 yX0_add cX0_add 4 none 3 := ⟨List.mem_filter.mpr ⟨List.mem_append_right _ (List.mem_of_getElem? (i := 805) (by decide +kernel)), by decide +kernel⟩, in_X0, co_X0_add, ⟨by decide +kernel, by decide +kernel⟩, by decide +kernel, by decide⟩
theorem lk_X8_142 : xLk RX8 142 yX8_readSum cX8_readSum 4 none 1 := ⟨List.mem_filter.mpr ⟨List.mem_append_right _ (List.mem_of_getElem? (i := 812) (by decide +kernel)), by decide +kernel⟩, in_X8, co_X8_readSum, ⟨by decide +kernel, by decide +kernel⟩, by decide +kernel, by decide⟩
theorem lk_X8_202 : xLk RX8 202 yX8_readTerm cX8_readTerm 4 none 1 := ⟨List.mem_filter.mpr ⟨List.mem_append_right _ (List.mem_of_getElem? (i := 816) (by decide +kernel)), by decide +kernel⟩, in_X8, co_X8_readTerm, ⟨by decide +kernel, by decide +kernel⟩, by decide +kernel, by decide⟩
theorem lk_X8_211 : xLk RX8 211 yX8_readFactor cX8_readFactor 3 none 1 := ⟨List.mem_filter.mpr ⟨List.mem_append_right _ (List.mem_of_getElem? (i := 820) (by decide +kernel)), by decide +kernel⟩, in_X8, co_X8_readFactor, ⟨by decide +kernel, by decide +kernel⟩, by decide +kernel, by decide⟩
theorem lk_X8_208 : xLk RX8 208 yX8_emit cX8_emit 2 none 1 := ⟨List.mem_filter.mpr ⟨List.mem_append_right _ (List.mem_of_getElem? (i := 827) (by decide +kernel)), by decide +kernel⟩, in_X8, co_X8_emit, ⟨by decide +kernel, by decide +kernel⟩, by decide +kernel, by decide⟩
theorem lk_X8_205 : xLk RX8 205 yX8_isEither cX8_isEither 3 (some .boolean) 2 := ⟨List.mem_filter.mpr ⟨List.mem_append_right _ (List.mem_of_getElem? (i := 831) (by decide +kernel)), by decide +kernel⟩, in_X8, co_X8_isEither, ⟨by decide +kernel, by decide +kernel⟩, by decide +kernel, by decide⟩
theorem lk_X8_74 : xLk RX8 74 yX10_clearLines cX10_clearLines 3 none 0 := ⟨List.mem_filter.mpr ⟨List.mem_append_right _ (List.mem_of_getElem? (i := 835) (by decide +kernel)), by decide +kernel⟩, in_X10, co_X10_clearLines, ⟨by decide +kernel, by decide +kernel⟩, by decide +kernel, by decide⟩
theorem lk_X10_120 : xLk RX10 120 yX4_clear cX4_clear 3 none 2 := ⟨List.mem_filter.mpr ⟨List.mem_append_right _ (List.mem_of_getElem? (i := 839) (by decide +kernel)), by decide +kernel⟩, in_X4, co_X4_clear, ⟨by decide +kernel, by decide +kernel⟩, by decide +kernel, by decide⟩
theorem lk_X8_82 : xLk RX8 82 yJ7_copyOf_59c91 cJ7_copyOf_59c91 3 (some (.array .int)) 2 := ⟨List.mem_filter.mpr ⟨List.mem_append_right _ (List.mem_of_getElem? (i := 844) (by decide +kernel)), by decide +kernel⟩, in_J7, co_J7_copyOf_59c91, ⟨by decide +kernel, by decide +kernel⟩, by decide +kernel, by decide⟩
theorem lj_J7_304 : Cond.methodLink RJ7 304 Lib.Math.min.name ∈ xT := List.mem_filter.mpr ⟨List.mem_append_right _ (List.mem_of_getElem? (i := 854) (by decide +kernel)), by decide +kernel⟩
theorem lj_J7_150 : Cond.methodLink RJ7 150 arraycopyName ∈ xT := List.mem_filter.mpr ⟨List.mem_append_right _ (List.mem_of_getElem? (i := 855) (by decide +kernel)), by decide +kernel⟩
theorem lk_X8_88 : xLk RX8 88 yX7_init cX7_init 2 none 1 := ⟨List.mem_filter.mpr ⟨List.mem_append_right _ (List.mem_of_getElem? (i := 856) (by decide +kernel)), by decide +kernel⟩, in_X7, co_X7_init, ⟨by decide +kernel, by decide +kernel⟩, by decide +kernel, by decide⟩
theorem lk_X11_64 : xLk RX11 64 yX3_keep cX3_keep 3 none 1 := ⟨List.mem_filter.mpr ⟨List.mem_append_right _ (List.mem_of_getElem? (i := 857) (by decide +kernel)), by decide +kernel⟩, in_X3, co_X3_keep, ⟨by decide +kernel, by decide +kernel⟩, by decide +kernel, by decide⟩
theorem lj_X3_33 : Cond.methodLink RX3 33 Lib.Math.min.name ∈ xT := List.mem_filter.mpr ⟨List.mem_append_right _ (List.mem_of_getElem? (i := 861) (by decide +kernel)), by decide +kernel⟩
theorem lk_X11_71 : xLk RX11 71 yX10_copyFrom cX10_copyFrom 2 none 1 := ⟨List.mem_filter.mpr ⟨List.mem_append_right _ (List.mem_of_getElem? (i := 862) (by decide +kernel)), by decide +kernel⟩, in_X10, co_X10_copyFrom, ⟨by decide +kernel, by decide +kernel⟩, by decide +kernel, by decide⟩
theorem lk_L_15 : xLk RL 15 yX11_state cX11_state 2 (some .int) 1 := ⟨List.mem_filter.mpr ⟨List.mem_append_right _ (List.mem_of_getElem? (i := 866) (by decide +kernel)), by decide +kernel⟩, in_X11, co_X11_state, ⟨by decide +kernel, by decide +kernel⟩, by decide +kernel, by decide⟩
theorem lk_L_18 : xLk RL 18 yX11_gate cX11_gate 3 (some .int) 2 := ⟨List.mem_filter.mpr ⟨List.mem_append_right _ (List.mem_of_getElem? (i := 871) (by decide +kernel)), by decide +kernel⟩, in_X11, co_X11_gate, ⟨by decide +kernel, by decide +kernel⟩, by decide +kernel, by decide⟩
theorem lk_L_24 : xLk RL 24 yX11_flow cX11_flow 3 (some .int) 2 := ⟨List.mem_filter.mpr ⟨List.mem_append_right _ (List.mem_of_getElem? (i := 878) (by decide +kernel)), by decide +kernel⟩, in_X11, co_X11_flow, ⟨by decide +kernel, by decide +kernel⟩, by decide +kernel, by decide⟩
theorem lk_L_27 : xLk RL 27 yX11_route cX11_route 4 (some .int) 2 := ⟨List.mem_filter.mpr ⟨List.mem_append_right _ (List.mem_of_getElem? (i := 883) (by decide +kernel)), by decide +kernel⟩, in_X11, co_X11_route, ⟨by decide +kernel, by decide +kernel⟩, by decide +kernel, by decide⟩
theorem lk_X11_156 : xLk RX11 156 yX1_gateAt cX1_gateAt 3 (some .int) 2 := ⟨List.mem_filter.mpr ⟨List.mem_append_right _ (List.mem_of_getElem? (i := 887) (by decide +kernel)), by decide +kernel⟩, in_X1, co_X1_gateAt, ⟨by decide +kernel, by decide +kernel⟩, by decide +kernel, by decide⟩
theorem lk_L_32 : xLk RL 32 yX11_tokens cX11_tokens 3 (some .int) 2 := ⟨List.mem_filter.mpr ⟨List.mem_append_right _ (List.mem_of_getElem? (i := 907) (by decide +kernel)), by decide +kernel⟩, in_X11, co_X11_tokens, ⟨by decide +kernel, by decide +kernel⟩, by decide +kernel, by decide⟩
theorem lk_L_35 : xLk RL 35 yX11_queue cX11_queue 3 (some .int) 2 := ⟨List.mem_filter.mpr ⟨List.mem_append_right _ (List.mem_of_getElem? (i := 911) (by decide +kernel)), by decide +kernel⟩, in_X11, co_X11_queue, ⟨by decide +kernel, by decide +kernel⟩, by decide +kernel, by decide⟩
theorem lk_L_38 : xLk RL 38 yX11_packet cX11_packet 3 (some .int) 2 := ⟨List.mem_filter.mpr ⟨List.mem_append_right _ (List.mem_of_getElem? (i := 915) (by decide +kernel)), by decide +kernel⟩, in_X11, co_X11_packet, ⟨by decide +kernel, by decide +kernel⟩, by decide +kernel, by decide⟩
theorem lk_L_41 : xLk RL 41 yX11_coupon cX11_coupon 3 (some .int) 2 := ⟨List.mem_filter.mpr ⟨List.mem_append_right _ (List.mem_of_getElem? (i := 919) (by decide +kernel)), by decide +kernel⟩, in_X11, co_X11_coupon, ⟨by decide +kernel, by decide +kernel⟩, by decide +kernel, by decide⟩
theorem lk_L_44 : xLk RL 44 yX11_loadOver cX11_loadOver 4 (some .int) 3 := ⟨List.mem_filter.mpr ⟨List.mem_append_right _ (List.mem_of_getElem? (i := 923) (by decide +kernel)), by decide +kernel⟩, in_X11, co_X11_loadOver, ⟨by decide +kernel, by decide +kernel⟩, by decide +kernel, by decide⟩
theorem lk_X11_214 : xLk RX11 214 yX11_checkRange cX11_checkRange 4 none 3 := ⟨List.mem_filter.mpr ⟨List.mem_append_right _ (List.mem_of_getElem? (i := 927) (by decide +kernel)), by decide +kernel⟩, in_X11, co_X11_checkRange, ⟨by decide +kernel, by decide +kernel⟩, by decide +kernel, by decide⟩
theorem lk_X11_222 : xLk RX11 222 yX6_greatestLoad cX6_greatestLoad 6 (some .int) 3 := ⟨List.mem_filter.mpr ⟨List.mem_append_right _ (List.mem_of_getElem? (i := 932) (by decide +kernel)), by decide +kernel⟩, in_X6, co_X6_greatestLoad, ⟨by decide +kernel, by decide +kernel⟩, by decide +kernel, by decide⟩
theorem lk_X6_38 : xLk RX6 38 yX6_loadFrom cX6_loadFrom 7 (some .int) 4 := ⟨List.mem_filter.mpr ⟨List.mem_append_right _ (List.mem_of_getElem? (i := 936) (by decide +kernel)), by decide +kernel⟩, in_X6, co_X6_loadFrom, ⟨by decide +kernel, by decide +kernel⟩, by decide +kernel, by decide⟩
theorem lj_X6_42 : Cond.methodLink RX6 42 Lib.Math.max.name ∈ xT := List.mem_filter.mpr ⟨List.mem_append_right _ (List.mem_of_getElem? (i := 940) (by decide +kernel)), by decide +kernel⟩
theorem lk_L_48 : xLk RL 48 yX11_curve cX11_curve 3 (some .int) 2 := ⟨List.mem_filter.mpr ⟨List.mem_append_right _ (List.mem_of_getElem? (i := 946) (by decide +kernel)), by decide +kernel⟩, in_X11, co_X11_curve, ⟨by decide +kernel, by decide +kernel⟩, by decide +kernel, by decide⟩
theorem lk_L_51 : xLk RL 51 yX11_endsAt cX11_endsAt 2 (some .int) 1 := ⟨List.mem_filter.mpr ⟨List.mem_append_right _ (List.mem_of_getElem? (i := 953) (by decide +kernel)), by decide +kernel⟩, in_X11, co_X11_endsAt, ⟨by decide +kernel, by decide +kernel⟩, by decide +kernel, by decide⟩
theorem lk_X11_228 : xLk RX11 228 yX5_hasEnded cX5_hasEnded 2 (some .boolean) 1 := ⟨List.mem_filter.mpr ⟨List.mem_append_right _ (List.mem_of_getElem? (i := 957) (by decide +kernel)), by decide +kernel⟩, in_X5, co_X5_hasEnded, ⟨by decide +kernel, by decide +kernel⟩, by decide +kernel, by decide⟩
theorem lk_X11_232 : xLk RX11 232 yX10_advance cX10_advance 5 none 2 := ⟨List.mem_filter.mpr ⟨List.mem_append_right _ (List.mem_of_getElem? (i := 961) (by decide +kernel)), by decide +kernel⟩, in_X10, co_X10_advance, ⟨by decide +kernel, by decide +kernel⟩, by decide +kernel, by decide⟩
theorem lk_X10_136 : xLk RX10 136 yX5_hasEnded cX5_hasEnded 2 (some .boolean) 1 := ⟨List.mem_filter.mpr ⟨List.mem_append_right _ (List.mem_of_getElem? (i := 965) (by decide +kernel)), by decide +kernel⟩, in_X5, co_X5_hasEnded, ⟨by decide +kernel, by decide +kernel⟩, by decide +kernel, by decide⟩
theorem lk_X10_140 : xLk RX10 140 yX10_quietTicks cX10_quietTicks 5 (some .int) 1 := ⟨List.mem_filter.mpr ⟨List.mem_append_right _ (List.mem_of_getElem? (i := 966) (by decide +kernel)), by decide +kernel⟩, in_X10, co_X10_quietTicks, ⟨by decide +kernel, by decide +kernel⟩, by decide +kernel, by decide⟩
theorem lj_X10_154 : Cond.methodLink RX10 154 Lib.Math.min.name ∈ xT := List.mem_filter.mpr ⟨List.mem_append_right _ (List.mem_of_getElem? (i := 970) (by decide +kernel)), by decide +kernel⟩
theorem lk_X10_162 : xLk RX10 162 yX10_ticksBeforePassage cX10_ticksBeforePassage 10 (some .int) 2 := ⟨List.mem_filter.mpr ⟨List.mem_append_right _ (List.mem_of_getElem? (i := 971) (by decide +kernel)), by decide +kernel⟩, in_X10, co_X10_ticksBeforePassage, ⟨by decide +kernel, by decide +kernel⟩, by decide +kernel, by decide⟩
theorem lk_X10_168 : xLk RX10 168 yX4_firstIn cX4_firstIn 3 (some .int) 1 := ⟨List.mem_filter.mpr ⟨List.mem_append_right _ (List.mem_of_getElem? (i := 975) (by decide +kernel)), by decide +kernel⟩, in_X4, co_X4_firstIn, ⟨by decide +kernel, by decide +kernel⟩, by decide +kernel, by decide⟩
theorem lk_X10_177 : xLk RX10 177 yX2_ticksBefore cX2_ticksBefore 4 (some .int) 3 := ⟨List.mem_filter.mpr ⟨List.mem_append_right _ (List.mem_of_getElem? (i := 979) (by decide +kernel)), by decide +kernel⟩, in_X2, co_X2_ticksBefore, ⟨by decide +kernel, by decide +kernel⟩, by decide +kernel, by decide⟩
theorem lk_X10_181 : xLk RX10 181 yX0_sumOf cX0_sumOf 4 (some .int) 1 := ⟨List.mem_filter.mpr ⟨List.mem_append_right _ (List.mem_of_getElem? (i := 984) (by decide +kernel)), by decide +kernel⟩, in_X0, co_X0_sumOf, ⟨by decide +kernel, by decide +kernel⟩, by decide +kernel, by decide⟩
theorem lj_X10_165 : Cond.methodLink RX10 165 Lib.Math.max.name ∈ xT := List.mem_filter.mpr ⟨List.mem_append_right _ (List.mem_of_getElem? (i := 985) (by decide +kernel)), by decide +kernel⟩
theorem lk_X10_144 : xLk RX10 144 yX10_rest cX10_rest 3 none 1 := ⟨List.mem_filter.mpr ⟨List.mem_append_right _ (List.mem_of_getElem? (i := 986) (by decide +kernel)), by decide +kernel⟩, in_X10, co_X10_rest, ⟨by decide +kernel, by decide +kernel⟩, by decide +kernel, by decide⟩
theorem lk_X10_190 : xLk RX10 190 yX10_refill cX10_refill 6 none 1 := ⟨List.mem_filter.mpr ⟨List.mem_append_right _ (List.mem_of_getElem? (i := 990) (by decide +kernel)), by decide +kernel⟩, in_X10, co_X10_refill, ⟨by decide +kernel, by decide +kernel⟩, by decide +kernel, by decide⟩
theorem lk_X10_193 : xLk RX10 193 yX10_noteLack cX10_noteLack 7 none 3 := ⟨List.mem_filter.mpr ⟨List.mem_append_right _ (List.mem_of_getElem? (i := 994) (by decide +kernel)), by decide +kernel⟩, in_X10, co_X10_noteLack, ⟨by decide +kernel, by decide +kernel⟩, by decide +kernel, by decide⟩
theorem lk_X10_148 : xLk RX10 148 yX10_tick cX10_tick 4 none 0 := ⟨List.mem_filter.mpr ⟨List.mem_append_right _ (List.mem_of_getElem? (i := 998) (by decide +kernel)), by decide +kernel⟩, in_X10, co_X10_tick, ⟨by decide +kernel, by decide +kernel⟩, by decide +kernel, by decide⟩
theorem lk_X10_197 : xLk RX10 197 yX0_removeEnding cX0_removeEnding 4 (some .int) 1 := ⟨List.mem_filter.mpr ⟨List.mem_append_right _ (List.mem_of_getElem? (i := 1002) (by decide +kernel)), by decide +kernel⟩, in_X0, co_X0_removeEnding, ⟨by decide +kernel, by decide +kernel⟩, by decide +kernel, by decide⟩
theorem lk_X0_32 : xLk RX0 32 yX0_removeAt cX0_removeAt 3 none 1 := ⟨List.mem_filter.mpr ⟨List.mem_append_right _ (List.mem_of_getElem? (i := 1006) (by decide +kernel)), by decide +kernel⟩, in_X0, co_X0_removeAt, ⟨by decide +kernel, by decide +kernel⟩, by decide +kernel, by decide⟩
theorem lk_X10_200 : xLk RX10 200 yX10_arrive cX10_arrive 5 none 1 := ⟨List.mem_filter.mpr ⟨List.mem_append_right _ (List.mem_of_getElem? (i := 1010) (by decide +kernel)), by decide +kernel⟩, in_X10, co_X10_arrive, ⟨by decide +kernel, by decide +kernel⟩, by decide +kernel, by decide⟩
theorem lk_X10_215 : xLk RX10 215 yX4_join cX4_join 4 none 2 := ⟨List.mem_filter.mpr ⟨List.mem_append_right _ (List.mem_of_getElem? (i := 1014) (by decide +kernel)), by decide +kernel⟩, in_X4, co_X4_join, ⟨by decide +kernel, by decide +kernel⟩, by decide +kernel, by decide⟩
theorem lk_X10_224 : xLk RX10 224 yX10_refund cX10_refund 4 none 2 := ⟨List.mem_filter.mpr ⟨List.mem_append_right _ (List.mem_of_getElem? (i := 1018) (by decide +kernel)), by decide +kernel⟩, in_X10, co_X10_refund, ⟨by decide +kernel, by decide +kernel⟩, by decide +kernel, by decide⟩
theorem lk_X10_227 : xLk RX10 227 yX0_add cX0_add 4 none 3 := ⟨List.mem_filter.mpr ⟨List.mem_append_right _ (List.mem_of_getElem? (i := 1022) (by decide +kernel)), by decide +kernel⟩, in_X0, co_X0_add, ⟨by decide +kernel, by decide +kernel⟩, by decide +kernel, by decide⟩
theorem lk_X10_203 : xLk RX10 203 yX10_openGate cX10_openGate 8 none 2 := ⟨List.mem_filter.mpr ⟨List.mem_append_right _ (List.mem_of_getElem? (i := 1023) (by decide +kernel)), by decide +kernel⟩, in_X10, co_X10_openGate, ⟨by decide +kernel, by decide +kernel⟩, by decide +kernel, by decide⟩
theorem lk_X10_230 : xLk RX10 230 yX4_leave cX4_leave 3 none 1 := ⟨List.mem_filter.mpr ⟨List.mem_append_right _ (List.mem_of_getElem? (i := 1027) (by decide +kernel)), by decide +kernel⟩, in_X4, co_X4_leave, ⟨by decide +kernel, by decide +kernel⟩, by decide +kernel, by decide⟩
theorem lk_X4_31 : xLk RX4 31 yX4_firstIn cX4_firstIn 3 (some .int) 1 := ⟨List.mem_filter.mpr ⟨List.mem_append_right _ (List.mem_of_getElem? (i := 1031) (by decide +kernel)), by decide +kernel⟩, in_X4, co_X4_firstIn, ⟨by decide +kernel, by decide +kernel⟩, by decide +kernel, by decide⟩
theorem lk_X10_233 : xLk RX10 233 yX10_passGate cX10_passGate 6 none 4 := ⟨List.mem_filter.mpr ⟨List.mem_append_right _ (List.mem_of_getElem? (i := 1032) (by decide +kernel)), by decide +kernel⟩, in_X10, co_X10_passGate, ⟨by decide +kernel, by decide +kernel⟩, by decide +kernel, by decide⟩
theorem lk_X10_237 : xLk RX10 237 yX0_spend cX0_spend 6 none 2 := ⟨List.mem_filter.mpr ⟨List.mem_append_right _ (List.mem_of_getElem? (i := 1036) (by decide +kernel)), by decide +kernel⟩, in_X0, co_X0_spend, ⟨by decide +kernel, by decide +kernel⟩, by decide +kernel, by decide⟩
theorem lk_X0_36 : xLk RX0 36 yX0_firstToEnd cX0_firstToEnd 4 (some .int) 1 := ⟨List.mem_filter.mpr ⟨List.mem_append_right _ (List.mem_of_getElem? (i := 1040) (by decide +kernel)), by decide +kernel⟩, in_X0, co_X0_firstToEnd, ⟨by decide +kernel, by decide +kernel⟩, by decide +kernel, by decide⟩
theorem lk_X10_243 : xLk RX10 243 yX7_valueFor cX7_valueFor 8 (some .int) 4 := ⟨List.mem_filter.mpr ⟨List.mem_append_right _ (List.mem_of_getElem? (i := 1044) (by decide +kernel)), by decide +kernel⟩, in_X7, co_X7_valueFor, ⟨by decide +kernel, by decide +kernel⟩, by decide +kernel, by decide⟩
theorem lk_X7_18 : xLk RX7 18 yX7_combine cX7_combine 7 (some .int) 3 := ⟨List.mem_filter.mpr ⟨List.mem_append_right _ (List.mem_of_getElem? (i := 1048) (by decide +kernel)), by decide +kernel⟩, in_X7, co_X7_combine, ⟨by decide +kernel, by decide +kernel⟩, by decide +kernel, by decide⟩
theorem lj_X7_35 : Cond.methodLink RX7 35 Lib.MathLoose.min_long.x ∈ xT := List.mem_filter.mpr ⟨List.mem_append_right _ (List.mem_of_getElem? (i := 1053) (by decide +kernel)), by decide +kernel⟩
theorem lj_X7_38 : Cond.methodLink RX7 38 Lib.MathLoose.max_long.x ∈ xT := List.mem_filter.mpr ⟨List.mem_append_right _ (List.mem_of_getElem? (i := 1056) (by decide +kernel)), by decide +kernel⟩
theorem lj_X7_22 : Cond.methodLink RX7 22 Lib.Math.min.name ∈ xT := List.mem_filter.mpr ⟨List.mem_append_right _ (List.mem_of_getElem? (i := 1059) (by decide +kernel)), by decide +kernel⟩
theorem lj_X7_28 : Cond.methodLink RX7 28 Lib.Math.max.name ∈ xT := List.mem_filter.mpr ⟨List.mem_append_right _ (List.mem_of_getElem? (i := 1060) (by decide +kernel)), by decide +kernel⟩
theorem lk_X10_247 : xLk RX10 247 yX6_add cX6_add 7 none 5 := ⟨List.mem_filter.mpr ⟨List.mem_append_right _ (List.mem_of_getElem? (i := 1061) (by decide +kernel)), by decide +kernel⟩, in_X6, co_X6_add, ⟨by decide +kernel, by decide +kernel⟩, by decide +kernel, by decide⟩
theorem lk_L_54 : xLk RL 54 yX11_billAfter cX11_billAfter 3 (some .int) 2 := ⟨List.mem_filter.mpr ⟨List.mem_append_right _ (List.mem_of_getElem? (i := 1068) (by decide +kernel)), by decide +kernel⟩, in_X11, co_X11_billAfter, ⟨by decide +kernel, by decide +kernel⟩, by decide +kernel, by decide⟩
theorem lk_L_57 : xLk RL 57 yX11_help cX11_help 6 (some .int) 1 := ⟨List.mem_filter.mpr ⟨List.mem_append_right _ (List.mem_of_getElem? (i := 1075) (by decide +kernel)), by decide +kernel⟩, in_X11, co_X11_help, ⟨by decide +kernel, by decide +kernel⟩, by decide +kernel, by decide⟩
theorem lk_X11_236 : xLk RX11 236 yX0_add cX0_add 4 none 3 := ⟨List.mem_filter.mpr ⟨List.mem_append_right _ (List.mem_of_getElem? (i := 1079) (by decide +kernel)), by decide +kernel⟩, in_X0, co_X0_add, ⟨by decide +kernel, by decide +kernel⟩, by decide +kernel, by decide⟩
theorem lj_X11_245 : Cond.methodLink RX11 245 Lib.Math.max.name ∈ xT := List.mem_filter.mpr ⟨List.mem_append_right _ (List.mem_of_getElem? (i := 1080) (by decide +kernel)), by decide +kernel⟩
theorem lk_L_60 : xLk RL 60 yX11_pass cX11_pass 3 (some .int) 1 := ⟨List.mem_filter.mpr ⟨List.mem_append_right _ (List.mem_of_getElem? (i := 1084) (by decide +kernel)), by decide +kernel⟩, in_X11, co_X11_pass, ⟨by decide +kernel, by decide +kernel⟩, by decide +kernel, by decide⟩
theorem lk_L_63 : xLk RL 63 yX11_forward cX11_forward 5 (some .int) 2 := ⟨List.mem_filter.mpr ⟨List.mem_append_right _ (List.mem_of_getElem? (i := 1091) (by decide +kernel)), by decide +kernel⟩, in_X11, co_X11_forward, ⟨by decide +kernel, by decide +kernel⟩, by decide +kernel, by decide⟩
theorem lk_L_66 : xLk RL 66 yX11_grant cX11_grant 4 (some .int) 3 := ⟨List.mem_filter.mpr ⟨List.mem_append_right _ (List.mem_of_getElem? (i := 1099) (by decide +kernel)), by decide +kernel⟩, in_X11, co_X11_grant, ⟨by decide +kernel, by decide +kernel⟩, by decide +kernel, by decide⟩
theorem lk_L_71 : xLk RL 71 yX11_send cX11_send 3 (some .int) 2 := ⟨List.mem_filter.mpr ⟨List.mem_append_right _ (List.mem_of_getElem? (i := 1122) (by decide +kernel)), by decide +kernel⟩, in_X11, co_X11_send, ⟨by decide +kernel, by decide +kernel⟩, by decide +kernel, by decide⟩
theorem lk_X11_255 : xLk RX11 255 yX5_add cX5_add 4 none 3 := ⟨List.mem_filter.mpr ⟨List.mem_append_right _ (List.mem_of_getElem? (i := 1127) (by decide +kernel)), by decide +kernel⟩, in_X5, co_X5_add, ⟨by decide +kernel, by decide +kernel⟩, by decide +kernel, by decide⟩
theorem lk_L_74 : xLk RL 74 yX11_setThrift cX11_setThrift 4 (some .int) 2 := ⟨List.mem_filter.mpr ⟨List.mem_append_right _ (List.mem_of_getElem? (i := 1131) (by decide +kernel)), by decide +kernel⟩, in_X11, co_X11_setThrift, ⟨by decide +kernel, by decide +kernel⟩, by decide +kernel, by decide⟩
theorem lk_L_80 : xLk RL 80 yX12_init cX12_init 1 none 0 := ⟨List.mem_filter.mpr ⟨List.mem_append_right _ (List.mem_of_getElem? (i := 1137) (by decide +kernel)), by decide +kernel⟩, in_X12, co_X12_init, ⟨by decide +kernel, by decide +kernel⟩, by decide +kernel, by decide⟩
theorem lj_X12_3 : Cond.methodLink RX12 3 objectInit ∈ xT := List.mem_filter.mpr ⟨List.mem_append_right _ (List.mem_of_getElem? (i := 1140) (by decide +kernel)), by decide +kernel⟩
theorem lk_X12_38 : xLk RX12 38 yX12_layUsual cX12_layUsual 2 none 1 := ⟨List.mem_filter.mpr ⟨List.mem_append_right _ (List.mem_of_getElem? (i := 1143) (by decide +kernel)), by decide +kernel⟩, in_X12, co_X12_layUsual, ⟨by decide +kernel, by decide +kernel⟩, by decide +kernel, by decide⟩
theorem fd_X12_42 : xFd RX12 42 12 0 RX12 TX12 18 := ⟨rfl, by decide, by decide, List.mem_filter.mpr ⟨List.mem_append_right _ (List.mem_of_getElem? (i := 1146) (by decide +kernel)), by decide +kernel⟩, rfl, rfl, uw_X12⟩
theorem fd_X12_9 : xFd RX12 9 12 1 RX12 TX12 18 := ⟨rfl, by decide, by decide, List.mem_filter.mpr ⟨List.mem_append_right _ (List.mem_of_getElem? (i := 1147) (by decide +kernel)), by decide +kernel⟩, rfl, rfl, uw_X12⟩
theorem fd_X12_45 : xFd RX12 45 12 2 RX12 TX12 18 := ⟨rfl, by decide, by decide, List.mem_filter.mpr ⟨List.mem_append_right _ (List.mem_of_getElem? (i := 1148) (by decide +kernel)), by decide +kernel⟩, rfl, rfl, uw_X12⟩
theorem fd_X12_48 : xFd RX12 48 12 3 RX12 TX12 18 := ⟨rfl, by decide, by decide, List.mem_filter.mpr ⟨List.mem_append_right _ (List.mem_of_getElem? (i := 1149) (by decide +kernel)), by decide +kernel⟩, rfl, rfl, uw_X12⟩
theorem fd_X12_51 : xFd RX12 51 12 4 RX12 TX12 18 := ⟨rfl, by decide, by decide, List.mem_filter.mpr ⟨List.mem_append_right _ (List.mem_of_getElem? (i := 1150) (by decide +kernel)), by decide +kernel⟩, rfl, rfl, uw_X12⟩
theorem fd_X12_58 : xFd RX12 58 12 5 RX12 TX12 18 := ⟨rfl, by decide, by decide, List.mem_filter.mpr ⟨List.mem_append_right _ (List.mem_of_getElem? (i := 1151) (by decide +kernel)), by decide +kernel⟩, rfl, rfl, uw_X12⟩
theorem fd_X12_61 : xFd RX12 61 12 6 RX12 TX12 18 := ⟨rfl, by decide, by decide, List.mem_filter.mpr ⟨List.mem_append_right _ (List.mem_of_getElem? (i := 1152) (by decide +kernel)), by decide +kernel⟩, rfl, rfl, uw_X12⟩
theorem fd_X12_13 : xFd RX12 13 12 7 RX12 TX12 18 := ⟨rfl, by decide, by decide, List.mem_filter.mpr ⟨List.mem_append_right _ (List.mem_of_getElem? (i := 1153) (by decide +kernel)), by decide +kernel⟩, rfl, rfl, uw_X12⟩
theorem fd_X12_17 : xFd RX12 17 12 8 RX12 TX12 18 := ⟨rfl, by decide, by decide, List.mem_filter.mpr ⟨List.mem_append_right _ (List.mem_of_getElem? (i := 1154) (by decide +kernel)), by decide +kernel⟩, rfl, rfl, uw_X12⟩
theorem fd_X12_20 : xFd RX12 20 12 9 RX12 TX12 18 := ⟨rfl, by decide, by decide, List.mem_filter.mpr ⟨List.mem_append_right _ (List.mem_of_getElem? (i := 1155) (by decide +kernel)), by decide +kernel⟩, rfl, rfl, uw_X12⟩
theorem fd_X12_23 : xFd RX12 23 12 10 RX12 TX12 18 := ⟨rfl, by decide, by decide, List.mem_filter.mpr ⟨List.mem_append_right _ (List.mem_of_getElem? (i := 1156) (by decide +kernel)), by decide +kernel⟩, rfl, rfl, uw_X12⟩
theorem fd_X12_26 : xFd RX12 26 12 11 RX12 TX12 18 := ⟨rfl, by decide, by decide, List.mem_filter.mpr ⟨List.mem_append_right _ (List.mem_of_getElem? (i := 1157) (by decide +kernel)), by decide +kernel⟩, rfl, rfl, uw_X12⟩
theorem fd_X12_31 : xFd RX12 31 12 12 RX12 TX12 18 := ⟨rfl, by decide, by decide, List.mem_filter.mpr ⟨List.mem_append_right _ (List.mem_of_getElem? (i := 1158) (by decide +kernel)), by decide +kernel⟩, rfl, rfl, uw_X12⟩
theorem fd_X12_301 : xFd RX12 301 12 13 RX12 TX12 18 := ⟨rfl, by decide, by decide, List.mem_filter.mpr ⟨List.mem_append_right _ (List.mem_of_getElem? (i := 1159) (by decide +kernel)), by decide +kernel⟩, rfl, rfl, uw_X12⟩
theorem fd_X12_93 : xFd RX12 93 12 14 RX12 TX12 18 := ⟨rfl, by decide, by decide, List.mem_filter.mpr ⟨List.mem_append_right _ (List.mem_of_getElem? (i := 1160) (by decide +kernel)), by decide +kernel⟩, rfl, rfl, uw_X12⟩
theorem fd_X12_101 : xFd RX12 101 12 15 RX12 TX12 18 := ⟨rfl, by decide, by decide, List.mem_filter.mpr ⟨List.mem_append_right _ (List.mem_of_getElem? (i := 1161) (by decide +kernel)), by decide +kernel⟩, rfl, rfl, uw_X12⟩
theorem fd_X12_135 : xFd RX12 135 12 16 RX12 TX12 18 := ⟨rfl, by decide, by decide, List.mem_filter.mpr ⟨List.mem_append_right _ (List.mem_of_getElem? (i := 1162) (by decide +kernel)), by decide +kernel⟩, rfl, rfl, uw_X12⟩
theorem fd_X12_34 : xFd RX12 34 12 17 RX12 TX12 18 := ⟨rfl, by decide, by decide, List.mem_filter.mpr ⟨List.mem_append_right _ (List.mem_of_getElem? (i := 1163) (by decide +kernel)), by decide +kernel⟩, rfl, rfl, uw_X12⟩
theorem lk_L_92 : xLk RL 92 yX12_thrown cX12_thrown 1 (some .int) 0 := ⟨List.mem_filter.mpr ⟨List.mem_append_right _ (List.mem_of_getElem? (i := 1202) (by decide +kernel)), by decide +kernel⟩, in_X12, co_X12_thrown, ⟨by decide +kernel, by decide +kernel⟩, by decide +kernel, by decide⟩
theorem lk_L_85 : xLk RL 85 yX12_append cX12_append 8 (some .int) 5 := ⟨List.mem_filter.mpr ⟨List.mem_append_right _ (List.mem_of_getElem? (i := 1206) (by decide +kernel)), by decide +kernel⟩, in_X12, co_X12_append, ⟨by decide +kernel, by decide +kernel⟩, by decide +kernel, by decide⟩
theorem lk_L_91 : xLk RL 91 yX12_load cX12_load 4 (some .int) 1 := ⟨List.mem_filter.mpr ⟨List.mem_append_right _ (List.mem_of_getElem? (i := 1210) (by decide +kernel)), by decide +kernel⟩, in_X12, co_X12_load, ⟨by decide +kernel, by decide +kernel⟩, by decide +kernel, by decide⟩
theorem lk_X12_64 : xLk RX12 64 yX12_in cX12_in 3 (some .boolean) 3 := ⟨List.mem_filter.mpr ⟨List.mem_append_right _ (List.mem_of_getElem? (i := 1214) (by decide +kernel)), by decide +kernel⟩, in_X12, co_X12_in, ⟨by decide +kernel, by decide +kernel⟩, by decide +kernel, by decide⟩
theorem lk_X12_178 : xLk RX12 178 yX12_fails cX12_fails 3 (some .boolean) 2 := ⟨List.mem_filter.mpr ⟨List.mem_append_right _ (List.mem_of_getElem? (i := 1217) (by decide +kernel)), by decide +kernel⟩, in_X12, co_X12_fails, ⟨by decide +kernel, by decide +kernel⟩, by decide +kernel, by decide⟩
theorem lk_X12_113 : xLk RX12 113 yX12_takeWord cX12_takeWord 3 (some .boolean) 1 := ⟨List.mem_filter.mpr ⟨List.mem_append_right _ (List.mem_of_getElem? (i := 1222) (by decide +kernel)), by decide +kernel⟩, in_X12, co_X12_takeWord, ⟨by decide +kernel, by decide +kernel⟩, by decide +kernel, by decide⟩
theorem lk_X12_68 : xLk RX12 68 yX12_isGood cX12_isGood 1 (some .boolean) 0 := ⟨List.mem_filter.mpr ⟨List.mem_append_right _ (List.mem_of_getElem? (i := 1226) (by decide +kernel)), by decide +kernel⟩, in_X12, co_X12_isGood, ⟨by decide +kernel, by decide +kernel⟩, by decide +kernel, by decide⟩
theorem lk_X12_72 : xLk RX12 72 yX12_next cX12_next 1 (some .int) 0 := ⟨List.mem_filter.mpr ⟨List.mem_append_right _ (List.mem_of_getElem? (i := 1230) (by decide +kernel)), by decide +kernel⟩, in_X12, co_X12_next, ⟨by decide +kernel, by decide +kernel⟩, by decide +kernel, by decide⟩
theorem lk_X12_54 : xLk RX12 54 yX12_byteAt cX12_byteAt 2 (some .int) 1 := ⟨List.mem_filter.mpr ⟨List.mem_append_right _ (List.mem_of_getElem? (i := 1234) (by decide +kernel)), by decide +kernel⟩, in_X12, co_X12_byteAt, ⟨by decide +kernel, by decide +kernel⟩, by decide +kernel, by decide⟩
theorem lk_X12_76 : xLk RX12 76 yJ0_length_8abf5 cJ0_length_8abf5 1 (some .int) 0 := ⟨List.mem_filter.mpr ⟨List.mem_append_right _ (List.mem_of_getElem? (i := 1238) (by decide +kernel)), by decide +kernel⟩, in_J0, co_J0_length_8abf5, ⟨by decide +kernel, by decide +kernel⟩, by decide +kernel, by decide⟩
theorem lk_X12_81 : xLk RX12 81 yJ0_charAt_5068e cJ0_charAt_5068e 2 (some .char) 1 := ⟨List.mem_filter.mpr ⟨List.mem_append_right _ (List.mem_of_getElem? (i := 1239) (by decide +kernel)), by decide +kernel⟩, in_J0, co_J0_charAt_5068e, ⟨by decide +kernel, by decide +kernel⟩, by decide +kernel, by decide⟩
theorem lk_X12_85 : xLk RX12 85 yX12_report cX12_report 3 none 2 := ⟨List.mem_filter.mpr ⟨List.mem_append_right _ (List.mem_of_getElem? (i := 1240) (by decide +kernel)), by decide +kernel⟩, in_X12, co_X12_report, ⟨by decide +kernel, by decide +kernel⟩, by decide +kernel, by decide⟩
theorem lk_X12_107 : xLk RX12 107 yX12_expect cX12_expect 2 none 1 := ⟨List.mem_filter.mpr ⟨List.mem_append_right _ (List.mem_of_getElem? (i := 1244) (by decide +kernel)), by decide +kernel⟩, in_X12, co_X12_expect, ⟨by decide +kernel, by decide +kernel⟩, by decide +kernel, by decide⟩
theorem lk_X12_184 : xLk RX12 184 yX12_statement cX12_statement 2 none 0 := ⟨List.mem_filter.mpr ⟨List.mem_append_right _ (List.mem_of_getElem? (i := 1248) (by decide +kernel)), by decide +kernel⟩, in_X12, co_X12_statement, ⟨by decide +kernel, by decide +kernel⟩, by decide +kernel, by decide⟩
theorem lk_X12_151 : xLk RX12 151 yX12_readGate cX12_readGate 6 none 1 := ⟨List.mem_filter.mpr ⟨List.mem_append_right _ (List.mem_of_getElem? (i := 1253) (by decide +kernel)), by decide +kernel⟩, in_X12, co_X12_readGate, ⟨by decide +kernel, by decide +kernel⟩, by decide +kernel, by decide⟩
theorem lk_X12_123 : xLk RX12 123 yX12_number cX12_number 4 (some .int) 2 := ⟨List.mem_filter.mpr ⟨List.mem_append_right _ (List.mem_of_getElem? (i := 1257) (by decide +kernel)), by decide +kernel⟩, in_X12, co_X12_number, ⟨by decide +kernel, by decide +kernel⟩, by decide +kernel, by decide⟩
theorem lk_X12_89 : xLk RX12 89 yX12_isDigit cX12_isDigit 1 (some .boolean) 1 := ⟨List.mem_filter.mpr ⟨List.mem_append_right _ (List.mem_of_getElem? (i := 1261) (by decide +kernel)), by decide +kernel⟩, in_X12, co_X12_isDigit, ⟨by decide +kernel, by decide +kernel⟩, by decide +kernel, by decide⟩
theorem lk_X12_97 : xLk RX12 97 yX12_min cX12_min 2 (some .int) 2 := ⟨List.mem_filter.mpr ⟨List.mem_append_right _ (List.mem_of_getElem? (i := 1265) (by decide +kernel)), by decide +kernel⟩, in_X12, co_X12_min, ⟨by decide +kernel, by decide +kernel⟩, by decide +kernel, by decide⟩
theorem lk_X12_156 : xLk RX12 156 yX12_readFlow cX12_readFlow 5 none 1 := ⟨List.mem_filter.mpr ⟨List.mem_append_right _ (List.mem_of_getElem? (i := 1269) (by decide +kernel)), by decide +kernel⟩, in_X12, co_X12_readFlow, ⟨by decide +kernel, by decide +kernel⟩, by decide +kernel, by decide⟩
theorem lk_X12_138 : xLk RX12 138 yX12_isOnWay cX12_isOnWay 6 (some .boolean) 4 := ⟨List.mem_filter.mpr ⟨List.mem_append_right _ (List.mem_of_getElem? (i := 1273) (by decide +kernel)), by decide +kernel⟩, in_X12, co_X12_isOnWay, ⟨by decide +kernel, by decide +kernel⟩, by decide +kernel, by decide⟩
theorem lk_X12_161 : xLk RX12 161 yX12_readPacket cX12_readPacket 5 none 1 := ⟨List.mem_filter.mpr ⟨List.mem_append_right _ (List.mem_of_getElem? (i := 1279) (by decide +kernel)), by decide +kernel⟩, in_X12, co_X12_readPacket, ⟨by decide +kernel, by decide +kernel⟩, by decide +kernel, by decide⟩
theorem lk_X12_144 : xLk RX12 144 yX12_putPacket cX12_putPacket 6 none 4 := ⟨List.mem_filter.mpr ⟨List.mem_append_right _ (List.mem_of_getElem? (i := 1283) (by decide +kernel)), by decide +kernel⟩, in_X12, co_X12_putPacket, ⟨by decide +kernel, by decide +kernel⟩, by decide +kernel, by decide⟩
theorem lk_X12_166 : xLk RX12 166 yX12_readCoupon cX12_readCoupon 5 none 1 := ⟨List.mem_filter.mpr ⟨List.mem_append_right _ (List.mem_of_getElem? (i := 1287) (by decide +kernel)), by decide +kernel⟩, in_X12, co_X12_readCoupon, ⟨by decide +kernel, by decide +kernel⟩, by decide +kernel, by decide⟩
theorem lk_X12_148 : xLk RX12 148 yX12_putCoupon cX12_putCoupon 5 none 4 := ⟨List.mem_filter.mpr ⟨List.mem_append_right _ (List.mem_of_getElem? (i := 1291) (by decide +kernel)), by decide +kernel⟩, in_X12, co_X12_putCoupon, ⟨by decide +kernel, by decide +kernel⟩, by decide +kernel, by decide⟩
theorem lk_X12_171 : xLk RX12 171 yX12_once cX12_once 3 none 2 := ⟨List.mem_filter.mpr ⟨List.mem_append_right _ (List.mem_of_getElem? (i := 1295) (by decide +kernel)), by decide +kernel⟩, in_X12, co_X12_once, ⟨by decide +kernel, by decide +kernel⟩, by decide +kernel, by decide⟩
theorem lk_X12_104 : xLk RX12 104 yX12_sum cX12_sum 2 none 0 := ⟨List.mem_filter.mpr ⟨List.mem_append_right _ (List.mem_of_getElem? (i := 1301) (by decide +kernel)), by decide +kernel⟩, in_X12, co_X12_sum, ⟨by decide +kernel, by decide +kernel⟩, by decide +kernel, by decide⟩
theorem lk_X12_132 : xLk RX12 132 yX12_term cX12_term 2 none 0 := ⟨List.mem_filter.mpr ⟨List.mem_append_right _ (List.mem_of_getElem? (i := 1305) (by decide +kernel)), by decide +kernel⟩, in_X12, co_X12_term, ⟨by decide +kernel, by decide +kernel⟩, by decide +kernel, by decide⟩
theorem lk_X12_129 : xLk RX12 129 yX12_factor cX12_factor 4 none 0 := ⟨List.mem_filter.mpr ⟨List.mem_append_right _ (List.mem_of_getElem? (i := 1309) (by decide +kernel)), by decide +kernel⟩, in_X12, co_X12_factor, ⟨by decide +kernel, by decide +kernel⟩, by decide +kernel, by decide⟩
theorem lk_X12_126 : xLk RX12 126 yX12_emit cX12_emit 2 none 1 := ⟨List.mem_filter.mpr ⟨List.mem_append_right _ (List.mem_of_getElem? (i := 1316) (by decide +kernel)), by decide +kernel⟩, in_X12, co_X12_emit, ⟨by decide +kernel, by decide +kernel⟩, by decide +kernel, by decide⟩
theorem lk_X12_187 : xLk RX12 187 yX12_pairAt cX12_pairAt 2 (some .int) 2 := ⟨List.mem_filter.mpr ⟨List.mem_append_right _ (List.mem_of_getElem? (i := 1320) (by decide +kernel)), by decide +kernel⟩, in_X12, co_X12_pairAt, ⟨by decide +kernel, by decide +kernel⟩, by decide +kernel, by decide⟩
theorem lk_X12_190 : xLk RX12 190 yX12_remember cX12_remember 2 none 0 := ⟨List.mem_filter.mpr ⟨List.mem_append_right _ (List.mem_of_getElem? (i := 1323) (by decide +kernel)), by decide +kernel⟩, in_X12, co_X12_remember, ⟨by decide +kernel, by decide +kernel⟩, by decide +kernel, by decide⟩
theorem lk_X12_193 : xLk RX12 193 yX12_copy cX12_copy 4 none 3 := ⟨List.mem_filter.mpr ⟨List.mem_append_right _ (List.mem_of_getElem? (i := 1327) (by decide +kernel)), by decide +kernel⟩, in_X12, co_X12_copy, ⟨by decide +kernel, by decide +kernel⟩, by decide +kernel, by decide⟩
theorem lk_L_99 : xLk RL 99 yX12_errorOffset cX12_errorOffset 1 (some .int) 0 := ⟨List.mem_filter.mpr ⟨List.mem_append_right _ (List.mem_of_getElem? (i := 1330) (by decide +kernel)), by decide +kernel⟩, in_X12, co_X12_errorOffset, ⟨by decide +kernel, by decide +kernel⟩, by decide +kernel, by decide⟩
theorem lk_L_102 : xLk RL 102 yX12_state cX12_state 2 (some .int) 1 := ⟨List.mem_filter.mpr ⟨List.mem_append_right _ (List.mem_of_getElem? (i := 1334) (by decide +kernel)), by decide +kernel⟩, in_X12, co_X12_state, ⟨by decide +kernel, by decide +kernel⟩, by decide +kernel, by decide⟩
theorem lk_L_106 : xLk RL 106 yX12_gate cX12_gate 3 (some .int) 2 := ⟨List.mem_filter.mpr ⟨List.mem_append_right _ (List.mem_of_getElem? (i := 1338) (by decide +kernel)), by decide +kernel⟩, in_X12, co_X12_gate, ⟨by decide +kernel, by decide +kernel⟩, by decide +kernel, by decide⟩
theorem lk_X12_265 : xLk RX12 265 yX12_noGate cX12_noGate 2 (some .boolean) 1 := ⟨List.mem_filter.mpr ⟨List.mem_append_right _ (List.mem_of_getElem? (i := 1342) (by decide +kernel)), by decide +kernel⟩, in_X12, co_X12_noGate, ⟨by decide +kernel, by decide +kernel⟩, by decide +kernel, by decide⟩
theorem lk_X12_268 : xLk RX12 268 yX12_noNumber cX12_noNumber 4 (some .boolean) 3 := ⟨List.mem_filter.mpr ⟨List.mem_append_right _ (List.mem_of_getElem? (i := 1346) (by decide +kernel)), by decide +kernel⟩, in_X12, co_X12_noNumber, ⟨by decide +kernel, by decide +kernel⟩, by decide +kernel, by decide⟩
theorem lk_X12_226 : xLk RX12 226 yX12_ofGate cX12_ofGate 3 (some .int) 2 := ⟨List.mem_filter.mpr ⟨List.mem_append_right _ (List.mem_of_getElem? (i := 1350) (by decide +kernel)), by decide +kernel⟩, in_X12, co_X12_ofGate, ⟨by decide +kernel, by decide +kernel⟩, by decide +kernel, by decide⟩
theorem lk_L_109 : xLk RL 109 yX12_flow cX12_flow 3 (some .int) 2 := ⟨List.mem_filter.mpr ⟨List.mem_append_right _ (List.mem_of_getElem? (i := 1354) (by decide +kernel)), by decide +kernel⟩, in_X12, co_X12_flow, ⟨by decide +kernel, by decide +kernel⟩, by decide +kernel, by decide⟩
theorem lk_X12_274 : xLk RX12 274 yX12_noFlow cX12_noFlow 2 (some .boolean) 1 := ⟨List.mem_filter.mpr ⟨List.mem_append_right _ (List.mem_of_getElem? (i := 1358) (by decide +kernel)), by decide +kernel⟩, in_X12, co_X12_noFlow, ⟨by decide +kernel, by decide +kernel⟩, by decide +kernel, by decide⟩
theorem lk_X12_277 : xLk RX12 277 yX12_toldFlow cX12_toldFlow 3 (some .int) 2 := ⟨List.mem_filter.mpr ⟨List.mem_append_right _ (List.mem_of_getElem? (i := 1362) (by decide +kernel)), by decide +kernel⟩, in_X12, co_X12_toldFlow, ⟨by decide +kernel, by decide +kernel⟩, by decide +kernel, by decide⟩
theorem lk_X12_200 : xLk RX12 200 yX12_ofFlow cX12_ofFlow 3 (some .int) 2 := ⟨List.mem_filter.mpr ⟨List.mem_append_right _ (List.mem_of_getElem? (i := 1366) (by decide +kernel)), by decide +kernel⟩, in_X12, co_X12_ofFlow, ⟨by decide +kernel, by decide +kernel⟩, by decide +kernel, by decide⟩
theorem lk_X12_271 : xLk RX12 271 yX12_couponsOf cX12_couponsOf 4 (some .int) 1 := ⟨List.mem_filter.mpr ⟨List.mem_append_right _ (List.mem_of_getElem? (i := 1370) (by decide +kernel)), by decide +kernel⟩, in_X12, co_X12_couponsOf, ⟨by decide +kernel, by decide +kernel⟩, by decide +kernel, by decide⟩
theorem lk_X12_203 : xLk RX12 203 yX12_couponAt cX12_couponAt 1 (some .int) 1 := ⟨List.mem_filter.mpr ⟨List.mem_append_right _ (List.mem_of_getElem? (i := 1374) (by decide +kernel)), by decide +kernel⟩, in_X12, co_X12_couponAt, ⟨by decide +kernel, by decide +kernel⟩, by decide +kernel, by decide⟩
theorem lk_X12_234 : xLk RX12 234 yX12_valuesOf cX12_valuesOf 4 (some .int) 1 := ⟨List.mem_filter.mpr ⟨List.mem_append_right _ (List.mem_of_getElem? (i := 1377) (by decide +kernel)), by decide +kernel⟩, in_X12, co_X12_valuesOf, ⟨by decide +kernel, by decide +kernel⟩, by decide +kernel, by decide⟩
theorem lk_L_112 : xLk RL 112 yX12_route cX12_route 3 (some .int) 2 := ⟨List.mem_filter.mpr ⟨List.mem_append_right _ (List.mem_of_getElem? (i := 1381) (by decide +kernel)), by decide +kernel⟩, in_X12, co_X12_route, ⟨by decide +kernel, by decide +kernel⟩, by decide +kernel, by decide⟩
theorem lk_L_115 : xLk RL 115 yX12_tokens cX12_tokens 3 (some .int) 2 := ⟨List.mem_filter.mpr ⟨List.mem_append_right _ (List.mem_of_getElem? (i := 1385) (by decide +kernel)), by decide +kernel⟩, in_X12, co_X12_tokens, ⟨by decide +kernel, by decide +kernel⟩, by decide +kernel, by decide⟩
theorem lk_L_118 : xLk RL 118 yX12_queue cX12_queue 3 (some .int) 2 := ⟨List.mem_filter.mpr ⟨List.mem_append_right _ (List.mem_of_getElem? (i := 1389) (by decide +kernel)), by decide +kernel⟩, in_X12, co_X12_queue, ⟨by decide +kernel, by decide +kernel⟩, by decide +kernel, by decide⟩
theorem lk_L_121 : xLk RL 121 yX12_packet cX12_packet 3 (some .int) 2 := ⟨List.mem_filter.mpr ⟨List.mem_append_right _ (List.mem_of_getElem? (i := 1393) (by decide +kernel)), by decide +kernel⟩, in_X12, co_X12_packet, ⟨by decide +kernel, by decide +kernel⟩, by decide +kernel, by decide⟩
theorem lk_X12_280 : xLk RX12 280 yX12_noPacket cX12_noPacket 2 (some .boolean) 1 := ⟨List.mem_filter.mpr ⟨List.mem_append_right _ (List.mem_of_getElem? (i := 1397) (by decide +kernel)), by decide +kernel⟩, in_X12, co_X12_noPacket, ⟨by decide +kernel, by decide +kernel⟩, by decide +kernel, by decide⟩
theorem lk_X12_283 : xLk RX12 283 yX12_toldPacket cX12_toldPacket 4 (some .int) 2 := ⟨List.mem_filter.mpr ⟨List.mem_append_right _ (List.mem_of_getElem? (i := 1401) (by decide +kernel)), by decide +kernel⟩, in_X12, co_X12_toldPacket, ⟨by decide +kernel, by decide +kernel⟩, by decide +kernel, by decide⟩
theorem lk_X12_197 : xLk RX12 197 yX12_packetAt cX12_packetAt 1 (some .int) 1 := ⟨List.mem_filter.mpr ⟨List.mem_append_right _ (List.mem_of_getElem? (i := 1405) (by decide +kernel)), by decide +kernel⟩, in_X12, co_X12_packetAt, ⟨by decide +kernel, by decide +kernel⟩, by decide +kernel, by decide⟩
theorem lk_X12_223 : xLk RX12 223 yX12_gateOf cX12_gateOf 2 (some .int) 1 := ⟨List.mem_filter.mpr ⟨List.mem_append_right _ (List.mem_of_getElem? (i := 1408) (by decide +kernel)), by decide +kernel⟩, in_X12, co_X12_gateOf, ⟨by decide +kernel, by decide +kernel⟩, by decide +kernel, by decide⟩
theorem lk_L_124 : xLk RL 124 yX12_coupon cX12_coupon 3 (some .int) 2 := ⟨List.mem_filter.mpr ⟨List.mem_append_right _ (List.mem_of_getElem? (i := 1412) (by decide +kernel)), by decide +kernel⟩, in_X12, co_X12_coupon, ⟨by decide +kernel, by decide +kernel⟩, by decide +kernel, by decide⟩
theorem lk_X12_286 : xLk RX12 286 yX12_noCoupon cX12_noCoupon 2 (some .boolean) 1 := ⟨List.mem_filter.mpr ⟨List.mem_append_right _ (List.mem_of_getElem? (i := 1416) (by decide +kernel)), by decide +kernel⟩, in_X12, co_X12_noCoupon, ⟨by decide +kernel, by decide +kernel⟩, by decide +kernel, by decide⟩
theorem lk_L_128 : xLk RL 128 yX12_loadOver cX12_loadOver 8 (some .int) 3 := ⟨List.mem_filter.mpr ⟨List.mem_append_right _ (List.mem_of_getElem? (i := 1420) (by decide +kernel)), by decide +kernel⟩, in_X12, co_X12_loadOver, ⟨by decide +kernel, by decide +kernel⟩, by decide +kernel, by decide⟩
theorem lk_X12_292 : xLk RX12 292 yX12_isKept cX12_isKept 4 (some .boolean) 3 := ⟨List.mem_filter.mpr ⟨List.mem_append_right _ (List.mem_of_getElem? (i := 1424) (by decide +kernel)), by decide +kernel⟩, in_X12, co_X12_isKept, ⟨by decide +kernel, by decide +kernel⟩, by decide +kernel, by decide⟩
theorem lk_X12_289 : xLk RX12 289 yX12_kept cX12_kept 3 (some .int) 2 := ⟨List.mem_filter.mpr ⟨List.mem_append_right _ (List.mem_of_getElem? (i := 1428) (by decide +kernel)), by decide +kernel⟩, in_X12, co_X12_kept, ⟨by decide +kernel, by decide +kernel⟩, by decide +kernel, by decide⟩
theorem lk_L_131 : xLk RL 131 yX12_curve cX12_curve 3 (some .int) 2 := ⟨List.mem_filter.mpr ⟨List.mem_append_right _ (List.mem_of_getElem? (i := 1432) (by decide +kernel)), by decide +kernel⟩, in_X12, co_X12_curve, ⟨by decide +kernel, by decide +kernel⟩, by decide +kernel, by decide⟩
theorem lk_L_134 : xLk RL 134 yX12_endsAt cX12_endsAt 3 (some .int) 1 := ⟨List.mem_filter.mpr ⟨List.mem_append_right _ (List.mem_of_getElem? (i := 1436) (by decide +kernel)), by decide +kernel⟩, in_X12, co_X12_endsAt, ⟨by decide +kernel, by decide +kernel⟩, by decide +kernel, by decide⟩
theorem lk_X12_295 : xLk RX12 295 yX12_endOf cX12_endOf 4 (some .int) 2 := ⟨List.mem_filter.mpr ⟨List.mem_append_right _ (List.mem_of_getElem? (i := 1440) (by decide +kernel)), by decide +kernel⟩, in_X12, co_X12_endOf, ⟨by decide +kernel, by decide +kernel⟩, by decide +kernel, by decide⟩
theorem lk_X12_259 : xLk RX12 259 yX12_hasEnded cX12_hasEnded 2 (some .boolean) 1 := ⟨List.mem_filter.mpr ⟨List.mem_append_right _ (List.mem_of_getElem? (i := 1444) (by decide +kernel)), by decide +kernel⟩, in_X12, co_X12_hasEnded, ⟨by decide +kernel, by decide +kernel⟩, by decide +kernel, by decide⟩
theorem lk_X12_262 : xLk RX12 262 yX12_tick cX12_tick 4 none 0 := ⟨List.mem_filter.mpr ⟨List.mem_append_right _ (List.mem_of_getElem? (i := 1448) (by decide +kernel)), by decide +kernel⟩, in_X12, co_X12_tick, ⟨by decide +kernel, by decide +kernel⟩, by decide +kernel, by decide⟩
theorem lk_X12_206 : xLk RX12 206 yX12_dropCoupon cX12_dropCoupon 3 none 1 := ⟨List.mem_filter.mpr ⟨List.mem_append_right _ (List.mem_of_getElem? (i := 1452) (by decide +kernel)), by decide +kernel⟩, in_X12, co_X12_dropCoupon, ⟨by decide +kernel, by decide +kernel⟩, by decide +kernel, by decide⟩
theorem lk_X12_248 : xLk RX12 248 yX12_arrive cX12_arrive 5 none 1 := ⟨List.mem_filter.mpr ⟨List.mem_append_right _ (List.mem_of_getElem? (i := 1456) (by decide +kernel)), by decide +kernel⟩, in_X12, co_X12_arrive, ⟨by decide +kernel, by decide +kernel⟩, by decide +kernel, by decide⟩
theorem lk_X12_229 : xLk RX12 229 yX12_end cX12_end 3 none 2 := ⟨List.mem_filter.mpr ⟨List.mem_append_right _ (List.mem_of_getElem? (i := 1460) (by decide +kernel)), by decide +kernel⟩, in_X12, co_X12_end, ⟨by decide +kernel, by decide +kernel⟩, by decide +kernel, by decide⟩
theorem lk_X12_232 : xLk RX12 232 yX12_refund cX12_refund 4 none 1 := ⟨List.mem_filter.mpr ⟨List.mem_append_right _ (List.mem_of_getElem? (i := 1464) (by decide +kernel)), by decide +kernel⟩, in_X12, co_X12_refund, ⟨by decide +kernel, by decide +kernel⟩, by decide +kernel, by decide⟩
theorem lk_X12_251 : xLk RX12 251 yX12_canPass cX12_canPass 6 (some .boolean) 2 := ⟨List.mem_filter.mpr ⟨List.mem_append_right _ (List.mem_of_getElem? (i := 1468) (by decide +kernel)), by decide +kernel⟩, in_X12, co_X12_canPass, ⟨by decide +kernel, by decide +kernel⟩, by decide +kernel, by decide⟩
theorem lk_X12_255 : xLk RX12 255 yX12_passOne cX12_passOne 10 none 3 := ⟨List.mem_filter.mpr ⟨List.mem_append_right _ (List.mem_of_getElem? (i := 1472) (by decide +kernel)), by decide +kernel⟩, in_X12, co_X12_passOne, ⟨by decide +kernel, by decide +kernel⟩, by decide +kernel, by decide⟩
theorem lk_X12_237 : xLk RX12 237 yX12_spend cX12_spend 6 none 2 := ⟨List.mem_filter.mpr ⟨List.mem_append_right _ (List.mem_of_getElem? (i := 1476) (by decide +kernel)), by decide +kernel⟩, in_X12, co_X12_spend, ⟨by decide +kernel, by decide +kernel⟩, by decide +kernel, by decide⟩
theorem lk_X12_240 : xLk RX12 240 yX12_priceOf cX12_priceOf 9 (some .int) 4 := ⟨List.mem_filter.mpr ⟨List.mem_append_right _ (List.mem_of_getElem? (i := 1480) (by decide +kernel)), by decide +kernel⟩, in_X12, co_X12_priceOf, ⟨by decide +kernel, by decide +kernel⟩, by decide +kernel, by decide⟩
theorem lk_X12_217 : xLk RX12 217 yX12_operate cX12_operate 5 (some .long) 3 := ⟨List.mem_filter.mpr ⟨List.mem_append_right _ (List.mem_of_getElem? (i := 1484) (by decide +kernel)), by decide +kernel⟩, in_X12, co_X12_operate, ⟨by decide +kernel, by decide +kernel⟩, by decide +kernel, by decide⟩
theorem lk_X12_213 : xLk RX12 213 yX12_limited cX12_limited 2 (some .long) 1 := ⟨List.mem_filter.mpr ⟨List.mem_append_right _ (List.mem_of_getElem? (i := 1487) (by decide +kernel)), by decide +kernel⟩, in_X12, co_X12_limited, ⟨by decide +kernel, by decide +kernel⟩, by decide +kernel, by decide⟩
theorem lk_X12_244 : xLk RX12 244 yX12_note cX12_note 6 none 4 := ⟨List.mem_filter.mpr ⟨List.mem_append_right _ (List.mem_of_getElem? (i := 1493) (by decide +kernel)), by decide +kernel⟩, in_X12, co_X12_note, ⟨by decide +kernel, by decide +kernel⟩, by decide +kernel, by decide⟩
theorem lk_L_137 : xLk RL 137 yX12_billAfter cX12_billAfter 4 (some .int) 2 := ⟨List.mem_filter.mpr ⟨List.mem_append_right _ (List.mem_of_getElem? (i := 1497) (by decide +kernel)), by decide +kernel⟩, in_X12, co_X12_billAfter, ⟨by decide +kernel, by decide +kernel⟩, by decide +kernel, by decide⟩
theorem lk_L_140 : xLk RL 140 yX12_help cX12_help 5 (some .int) 1 := ⟨List.mem_filter.mpr ⟨List.mem_append_right _ (List.mem_of_getElem? (i := 1501) (by decide +kernel)), by decide +kernel⟩, in_X12, co_X12_help, ⟨by decide +kernel, by decide +kernel⟩, by decide +kernel, by decide⟩
theorem lk_X12_298 : xLk RX12 298 yX12_helps cX12_helps 5 (some .boolean) 3 := ⟨List.mem_filter.mpr ⟨List.mem_append_right _ (List.mem_of_getElem? (i := 1505) (by decide +kernel)), by decide +kernel⟩, in_X12, co_X12_helps, ⟨by decide +kernel, by decide +kernel⟩, by decide +kernel, by decide⟩
theorem lk_L_143 : xLk RL 143 yX12_pass cX12_pass 4 (some .int) 1 := ⟨List.mem_filter.mpr ⟨List.mem_append_right _ (List.mem_of_getElem? (i := 1509) (by decide +kernel)), by decide +kernel⟩, in_X12, co_X12_pass, ⟨by decide +kernel, by decide +kernel⟩, by decide +kernel, by decide⟩
theorem lk_L_146 : xLk RL 146 yX12_forward cX12_forward 4 (some .int) 2 := ⟨List.mem_filter.mpr ⟨List.mem_append_right _ (List.mem_of_getElem? (i := 1513) (by decide +kernel)), by decide +kernel⟩, in_X12, co_X12_forward, ⟨by decide +kernel, by decide +kernel⟩, by decide +kernel, by decide⟩
theorem lk_L_149 : xLk RL 149 yX12_grant cX12_grant 4 (some .int) 3 := ⟨List.mem_filter.mpr ⟨List.mem_append_right _ (List.mem_of_getElem? (i := 1517) (by decide +kernel)), by decide +kernel⟩, in_X12, co_X12_grant, ⟨by decide +kernel, by decide +kernel⟩, by decide +kernel, by decide⟩
theorem lk_L_152 : xLk RL 152 yX12_send cX12_send 3 (some .int) 2 := ⟨List.mem_filter.mpr ⟨List.mem_append_right _ (List.mem_of_getElem? (i := 1521) (by decide +kernel)), by decide +kernel⟩, in_X12, co_X12_send, ⟨by decide +kernel, by decide +kernel⟩, by decide +kernel, by decide⟩
theorem lk_L_155 : xLk RL 155 yX12_setThrift cX12_setThrift 4 (some .int) 2 := ⟨List.mem_filter.mpr ⟨List.mem_append_right _ (List.mem_of_getElem? (i := 1525) (by decide +kernel)), by decide +kernel⟩, in_X12, co_X12_setThrift, ⟨by decide +kernel, by decide +kernel⟩, by decide +kernel, by decide⟩
theorem lk_L_159 : xLk RL 159 yX12_undo cX12_undo 1 (some .int) 0 := ⟨List.mem_filter.mpr ⟨List.mem_append_right _ (List.mem_of_getElem? (i := 1529) (by decide +kernel)), by decide +kernel⟩, in_X12, co_X12_undo, ⟨by decide +kernel, by decide +kernel⟩, by decide +kernel, by decide⟩
theorem lk_L_164 : xLk RL 164 yX12_checksum cX12_checksum 5 (some .long) 0 := ⟨List.mem_filter.mpr ⟨List.mem_append_right _ (List.mem_of_getElem? (i := 1533) (by decide +kernel)), by decide +kernel⟩, in_X12, co_X12_checksum, ⟨by decide +kernel, by decide +kernel⟩, by decide +kernel, by decide⟩
theorem jw_obj_im : Cond.instanceMethod objectInit ∈ xT := List.mem_filter.mpr ⟨List.mem_append_right _ (List.mem_of_getElem? (i := 34) (by decide +kernel)), by decide +kernel⟩
theorem jw_obj_co : Cond.code objectInit ⟨#[0xb1]⟩ 1 none ∈ xT := List.mem_filter.mpr ⟨List.mem_append_right _ (List.mem_of_getElem? (i := 35) (by decide +kernel)), by decide +kernel⟩
theorem jw_cp_nat : Cond.native arraycopyName ∈ xT := List.mem_filter.mpr ⟨List.mem_append_right _ (List.mem_of_getElem? (i := 462) (by decide +kernel)), by decide +kernel⟩
theorem jw_cp_st : Cond.static arraycopyName ∈ xT := List.mem_filter.mpr ⟨List.mem_append_right _ (List.mem_of_getElem? (i := 461) (by decide +kernel)), by decide +kernel⟩
theorem jw_cp_in : Cond.initialized "java/lang/System" ∈ xT := List.mem_filter.mpr ⟨List.mem_append_right _ (List.mem_of_getElem? (i := 24) (by decide +kernel)), by decide +kernel⟩
theorem jw_ma_in : Cond.initialized "java/lang/Math" ∈ xT := List.mem_filter.mpr ⟨List.mem_append_right _ (List.mem_of_getElem? (i := 18) (by decide +kernel)), by decide +kernel⟩
theorem jw_max_st : Cond.static Lib.Math.max.name ∈ xT := List.mem_filter.mpr ⟨List.mem_append_right _ (List.mem_of_getElem? (i := 941) (by decide +kernel)), by decide +kernel⟩
theorem jw_max_co : Cond.code Lib.Math.max.name Lib.Math.max.code 2 (some .int) ∈ xT := List.mem_filter.mpr ⟨List.mem_append_right _ (List.mem_of_getElem? (i := 942) (by decide +kernel)), by decide +kernel⟩
theorem jw_min_st : Cond.static Lib.Math.min.name ∈ xT := List.mem_filter.mpr ⟨List.mem_append_right _ (List.mem_of_getElem? (i := 670) (by decide +kernel)), by decide +kernel⟩
theorem jw_min_co : Cond.code Lib.Math.min.name Lib.Math.min.code 2 (some .int) ∈ xT := List.mem_filter.mpr ⟨List.mem_append_right _ (List.mem_of_getElem? (i := 671) (by decide +kernel)), by decide +kernel⟩
theorem jw_maxL_st : Cond.static Lib.MathLoose.max_long.x ∈ xT := List.mem_filter.mpr ⟨List.mem_append_right _ (List.mem_of_getElem? (i := 1057) (by decide +kernel)), by decide +kernel⟩
theorem jw_maxL_co : Cond.code Lib.MathLoose.max_long.x Lib.MathLoose.max_long.code 4 (some .long) ∈ xT := List.mem_filter.mpr ⟨List.mem_append_right _ (List.mem_of_getElem? (i := 1058) (by decide +kernel)), by decide +kernel⟩
theorem jw_minL_st : Cond.static Lib.MathLoose.min_long.x ∈ xT := List.mem_filter.mpr ⟨List.mem_append_right _ (List.mem_of_getElem? (i := 1054) (by decide +kernel)), by decide +kernel⟩
theorem jw_minL_co : Cond.code Lib.MathLoose.min_long.x Lib.MathLoose.min_long.code 4 (some .long) ∈ xT := List.mem_filter.mpr ⟨List.mem_append_right _ (List.mem_of_getElem? (i := 1055) (by decide +kernel)), by decide +kernel⟩
