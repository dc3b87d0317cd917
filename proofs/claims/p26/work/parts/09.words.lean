/-! THE TABLES' WORDS, by their places (written by program) -/
set_option maxRecDepth 100000 in
theorem uw_X0 : ∀ w ∈ u_ws RX0 TX0 5, w ∈ xT := by
  intro w hw
  obtain ⟨k, hk, rfl⟩ := List.mem_map.mp hw
  have hk := List.mem_range.mp hk
  match k, hk with
  | 0, _ => exact (show u_lay RX0 TX0 0 ∈ xT from List.mem_filter.mpr ⟨List.mem_append_right _ (List.mem_of_getElem? (i := 244) rfl), by rfl⟩)
  | 1, _ => exact (show u_lay RX0 TX0 1 ∈ xT from List.mem_filter.mpr ⟨List.mem_append_right _ (List.mem_of_getElem? (i := 246) rfl), by rfl⟩)
  | 2, _ => exact (show u_lay RX0 TX0 2 ∈ xT from List.mem_filter.mpr ⟨List.mem_append_right _ (List.mem_of_getElem? (i := 248) rfl), by rfl⟩)
  | 3, _ => exact (show u_lay RX0 TX0 3 ∈ xT from List.mem_filter.mpr ⟨List.mem_append_right _ (List.mem_of_getElem? (i := 250) rfl), by rfl⟩)
  | 4, _ => exact (show u_lay RX0 TX0 4 ∈ xT from List.mem_filter.mpr ⟨List.mem_append_right _ (List.mem_of_getElem? (i := 252) rfl), by rfl⟩)
  | q + 5, hq => omega
set_option maxRecDepth 100000 in
theorem ft_X0 : xFt RX0 TX0 5 tyX0 := ⟨tyX0_ok, nmX0⟩
set_option maxRecDepth 100000 in
theorem uw_X1 : ∀ w ∈ u_ws RX1 TX1 5, w ∈ xT := by
  intro w hw
  obtain ⟨k, hk, rfl⟩ := List.mem_map.mp hw
  have hk := List.mem_range.mp hk
  match k, hk with
  | 0, _ => exact (show u_lay RX1 TX1 0 ∈ xT from List.mem_filter.mpr ⟨List.mem_append_right _ (List.mem_of_getElem? (i := 137) rfl), by rfl⟩)
  | 1, _ => exact (show u_lay RX1 TX1 1 ∈ xT from List.mem_filter.mpr ⟨List.mem_append_right _ (List.mem_of_getElem? (i := 139) rfl), by rfl⟩)
  | 2, _ => exact (show u_lay RX1 TX1 2 ∈ xT from List.mem_filter.mpr ⟨List.mem_append_right _ (List.mem_of_getElem? (i := 141) rfl), by rfl⟩)
  | 3, _ => exact (show u_lay RX1 TX1 3 ∈ xT from List.mem_filter.mpr ⟨List.mem_append_right _ (List.mem_of_getElem? (i := 143) rfl), by rfl⟩)
  | 4, _ => exact (show u_lay RX1 TX1 4 ∈ xT from List.mem_filter.mpr ⟨List.mem_append_right _ (List.mem_of_getElem? (i := 145) rfl), by rfl⟩)
  | q + 5, hq => omega
set_option maxRecDepth 100000 in
theorem ft_X1 : xFt RX1 TX1 5 tyX1 := ⟨tyX1_ok, nmX1⟩
set_option maxRecDepth 100000 in
theorem uw_X2 : ∀ w ∈ u_ws RX2 TX2 4, w ∈ xT := by
  intro w hw
  obtain ⟨k, hk, rfl⟩ := List.mem_map.mp hw
  have hk := List.mem_range.mp hk
  match k, hk with
  | 0, _ => exact (show u_lay RX2 TX2 0 ∈ xT from List.mem_filter.mpr ⟨List.mem_append_right _ (List.mem_of_getElem? (i := 107) rfl), by rfl⟩)
  | 1, _ => exact (show u_lay RX2 TX2 1 ∈ xT from List.mem_filter.mpr ⟨List.mem_append_right _ (List.mem_of_getElem? (i := 109) rfl), by rfl⟩)
  | 2, _ => exact (show u_lay RX2 TX2 2 ∈ xT from List.mem_filter.mpr ⟨List.mem_append_right _ (List.mem_of_getElem? (i := 111) rfl), by rfl⟩)
  | 3, _ => exact (show u_lay RX2 TX2 3 ∈ xT from List.mem_filter.mpr ⟨List.mem_append_right _ (List.mem_of_getElem? (i := 113) rfl), by rfl⟩)
  | q + 4, hq => omega
set_option maxRecDepth 100000 in
theorem ft_X2 : xFt RX2 TX2 4 tyX2 := ⟨tyX2_ok, nmX2⟩
set_option maxRecDepth 100000 in
theorem uw_X3 : ∀ w ∈ u_ws RX3 TX3 3, w ∈ xT := by
  intro w hw
  obtain ⟨k, hk, rfl⟩ := List.mem_map.mp hw
  have hk := List.mem_range.mp hk
  match k, hk with
  | 0, _ => exact (show u_lay RX3 TX3 0 ∈ xT from List.mem_filter.mpr ⟨List.mem_append_right _ (List.mem_of_getElem? (i := 408) rfl), by rfl⟩)
  | 1, _ => exact (show u_lay RX3 TX3 1 ∈ xT from List.mem_filter.mpr ⟨List.mem_append_right _ (List.mem_of_getElem? (i := 410) rfl), by rfl⟩)
  | 2, _ => exact (show u_lay RX3 TX3 2 ∈ xT from List.mem_filter.mpr ⟨List.mem_append_right _ (List.mem_of_getElem? (i := 412) rfl), by rfl⟩)
  | q + 3, hq => omega
set_option maxRecDepth 100000 in
theorem ft_X3 : xFt RX3 TX3 3 tyX3 := ⟨tyX3_ok, nmX3⟩
set_option maxRecDepth 100000 in
theorem uw_X4 : ∀ w ∈ u_ws RX4 TX4 5, w ∈ xT := by
  intro w hw
  obtain ⟨k, hk, rfl⟩ := List.mem_map.mp hw
  have hk := List.mem_range.mp hk
  match k, hk with
  | 0, _ => exact (show u_lay RX4 TX4 0 ∈ xT from List.mem_filter.mpr ⟨List.mem_append_right _ (List.mem_of_getElem? (i := 163) rfl), by rfl⟩)
  | 1, _ => exact (show u_lay RX4 TX4 1 ∈ xT from List.mem_filter.mpr ⟨List.mem_append_right _ (List.mem_of_getElem? (i := 165) rfl), by rfl⟩)
  | 2, _ => exact (show u_lay RX4 TX4 2 ∈ xT from List.mem_filter.mpr ⟨List.mem_append_right _ (List.mem_of_getElem? (i := 167) rfl), by rfl⟩)
  | 3, _ => exact (show u_lay RX4 TX4 3 ∈ xT from List.mem_filter.mpr ⟨List.mem_append_right _ (List.mem_of_getElem? (i := 169) rfl), by rfl⟩)
  | 4, _ => exact (show u_lay RX4 TX4 4 ∈ xT from List.mem_filter.mpr ⟨List.mem_append_right _ (List.mem_of_getElem? (i := 171) rfl), by rfl⟩)
  | q + 5, hq => omega
set_option maxRecDepth 100000 in
theorem ft_X4 : xFt RX4 TX4 5 tyX4 := ⟨tyX4_ok, nmX4⟩
set_option maxRecDepth 100000 in
theorem uw_X5 : ∀ w ∈ u_ws RX5 TX5 9, w ∈ xT := by
  intro w hw
  obtain ⟨k, hk, rfl⟩ := List.mem_map.mp hw
  have hk := List.mem_range.mp hk
  match k, hk with
  | 0, _ => exact (show u_lay RX5 TX5 0 ∈ xT from List.mem_filter.mpr ⟨List.mem_append_right _ (List.mem_of_getElem? (i := 206) rfl), by rfl⟩)
  | 1, _ => exact (show u_lay RX5 TX5 1 ∈ xT from List.mem_filter.mpr ⟨List.mem_append_right _ (List.mem_of_getElem? (i := 208) rfl), by rfl⟩)
  | 2, _ => exact (show u_lay RX5 TX5 2 ∈ xT from List.mem_filter.mpr ⟨List.mem_append_right _ (List.mem_of_getElem? (i := 210) rfl), by rfl⟩)
  | 3, _ => exact (show u_lay RX5 TX5 3 ∈ xT from List.mem_filter.mpr ⟨List.mem_append_right _ (List.mem_of_getElem? (i := 212) rfl), by rfl⟩)
  | 4, _ => exact (show u_lay RX5 TX5 4 ∈ xT from List.mem_filter.mpr ⟨List.mem_append_right _ (List.mem_of_getElem? (i := 214) rfl), by rfl⟩)
  | 5, _ => exact (show u_lay RX5 TX5 5 ∈ xT from List.mem_filter.mpr ⟨List.mem_append_right _ (List.mem_of_getElem? (i := 216) rfl), by rfl⟩)
  | 6, _ => exact (show u_lay RX5 TX5 6 ∈ xT from List.mem_filter.mpr ⟨List.mem_append_right _ (List.mem_of_getElem? (i := 218) rfl), by rfl⟩)
  | 7, _ => exact (show u_lay RX5 TX5 7 ∈ xT from List.mem_filter.mpr ⟨List.mem_append_right _ (List.mem_of_getElem? (i := 220) rfl), by rfl⟩)
  | 8, _ => exact (show u_lay RX5 TX5 8 ∈ xT from List.mem_filter.mpr ⟨List.mem_append_right _ (List.mem_of_getElem? (i := 222) rfl), by rfl⟩)
  | q + 9, hq => omega
set_option maxRecDepth 100000 in
theorem ft_X5 : xFt RX5 TX5 9 tyX5 := ⟨tyX5_ok, nmX5⟩
set_option maxRecDepth 100000 in
theorem uw_X6 : ∀ w ∈ u_ws RX6 TX6 7, w ∈ xT := by
  intro w hw
  obtain ⟨k, hk, rfl⟩ := List.mem_map.mp hw
  have hk := List.mem_range.mp hk
  match k, hk with
  | 0, _ => exact (show u_lay RX6 TX6 0 ∈ xT from List.mem_filter.mpr ⟨List.mem_append_right _ (List.mem_of_getElem? (i := 268) rfl), by rfl⟩)
  | 1, _ => exact (show u_lay RX6 TX6 1 ∈ xT from List.mem_filter.mpr ⟨List.mem_append_right _ (List.mem_of_getElem? (i := 270) rfl), by rfl⟩)
  | 2, _ => exact (show u_lay RX6 TX6 2 ∈ xT from List.mem_filter.mpr ⟨List.mem_append_right _ (List.mem_of_getElem? (i := 272) rfl), by rfl⟩)
  | 3, _ => exact (show u_lay RX6 TX6 3 ∈ xT from List.mem_filter.mpr ⟨List.mem_append_right _ (List.mem_of_getElem? (i := 274) rfl), by rfl⟩)
  | 4, _ => exact (show u_lay RX6 TX6 4 ∈ xT from List.mem_filter.mpr ⟨List.mem_append_right _ (List.mem_of_getElem? (i := 276) rfl), by rfl⟩)
  | 5, _ => exact (show u_lay RX6 TX6 5 ∈ xT from List.mem_filter.mpr ⟨List.mem_append_right _ (List.mem_of_getElem? (i := 278) rfl), by rfl⟩)
  | 6, _ => exact (show u_lay RX6 TX6 6 ∈ xT from List.mem_filter.mpr ⟨List.mem_append_right _ (List.mem_of_getElem? (i := 280) rfl), by rfl⟩)
  | q + 7, hq => omega
set_option maxRecDepth 100000 in
theorem ft_X6 : xFt RX6 TX6 7 tyX6 := ⟨tyX6_ok, nmX6⟩
set_option maxRecDepth 100000 in
theorem uw_X7 : ∀ w ∈ u_ws RX7 TX7 2, w ∈ xT := by
  intro w hw
  obtain ⟨k, hk, rfl⟩ := List.mem_map.mp hw
  have hk := List.mem_range.mp hk
  match k, hk with
  | 0, _ => exact (show u_lay RX7 TX7 0 ∈ xT from List.mem_filter.mpr ⟨List.mem_append_right _ (List.mem_of_getElem? (i := 291) rfl), by rfl⟩)
  | 1, _ => exact (show u_lay RX7 TX7 1 ∈ xT from List.mem_filter.mpr ⟨List.mem_append_right _ (List.mem_of_getElem? (i := 293) rfl), by rfl⟩)
  | q + 2, hq => omega
set_option maxRecDepth 100000 in
theorem ft_X7 : xFt RX7 TX7 2 tyX7 := ⟨tyX7_ok, nmX7⟩
set_option maxRecDepth 100000 in
theorem uw_X8 : ∀ w ∈ u_ws RX8 TX8 9, w ∈ xT := by
  intro w hw
  obtain ⟨k, hk, rfl⟩ := List.mem_map.mp hw
  have hk := List.mem_range.mp hk
  match k, hk with
  | 0, _ => exact (show u_lay RX8 TX8 0 ∈ xT from List.mem_filter.mpr ⟨List.mem_append_right _ (List.mem_of_getElem? (i := 375) rfl), by rfl⟩)
  | 1, _ => exact (show u_lay RX8 TX8 1 ∈ xT from List.mem_filter.mpr ⟨List.mem_append_right _ (List.mem_of_getElem? (i := 377) rfl), by rfl⟩)
  | 2, _ => exact (show u_lay RX8 TX8 2 ∈ xT from List.mem_filter.mpr ⟨List.mem_append_right _ (List.mem_of_getElem? (i := 379) rfl), by rfl⟩)
  | 3, _ => exact (show u_lay RX8 TX8 3 ∈ xT from List.mem_filter.mpr ⟨List.mem_append_right _ (List.mem_of_getElem? (i := 381) rfl), by rfl⟩)
  | 4, _ => exact (show u_lay RX8 TX8 4 ∈ xT from List.mem_filter.mpr ⟨List.mem_append_right _ (List.mem_of_getElem? (i := 383) rfl), by rfl⟩)
  | 5, _ => exact (show u_lay RX8 TX8 5 ∈ xT from List.mem_filter.mpr ⟨List.mem_append_right _ (List.mem_of_getElem? (i := 385) rfl), by rfl⟩)
  | 6, _ => exact (show u_lay RX8 TX8 6 ∈ xT from List.mem_filter.mpr ⟨List.mem_append_right _ (List.mem_of_getElem? (i := 387) rfl), by rfl⟩)
  | 7, _ => exact (show u_lay RX8 TX8 7 ∈ xT from List.mem_filter.mpr ⟨List.mem_append_right _ (List.mem_of_getElem? (i := 389) rfl), by rfl⟩)
  | 8, _ => exact (show u_lay RX8 TX8 8 ∈ xT from List.mem_filter.mpr ⟨List.mem_append_right _ (List.mem_of_getElem? (i := 391) rfl), by rfl⟩)
  | q + 9, hq => omega
set_option maxRecDepth 100000 in
theorem ft_X8 : xFt RX8 TX8 9 tyX8 := ⟨tyX8_ok, nmX8⟩
set_option maxRecDepth 100000 in
theorem uw_X9 : ∀ w ∈ u_ws RX9 TX9 7, w ∈ xT := by
  intro w hw
  obtain ⟨k, hk, rfl⟩ := List.mem_map.mp hw
  have hk := List.mem_range.mp hk
  match k, hk with
  | 0, _ => exact (show u_lay RX9 TX9 0 ∈ xT from List.mem_filter.mpr ⟨List.mem_append_right _ (List.mem_of_getElem? (i := 66) rfl), by rfl⟩)
  | 1, _ => exact (show u_lay RX9 TX9 1 ∈ xT from List.mem_filter.mpr ⟨List.mem_append_right _ (List.mem_of_getElem? (i := 68) rfl), by rfl⟩)
  | 2, _ => exact (show u_lay RX9 TX9 2 ∈ xT from List.mem_filter.mpr ⟨List.mem_append_right _ (List.mem_of_getElem? (i := 70) rfl), by rfl⟩)
  | 3, _ => exact (show u_lay RX9 TX9 3 ∈ xT from List.mem_filter.mpr ⟨List.mem_append_right _ (List.mem_of_getElem? (i := 72) rfl), by rfl⟩)
  | 4, _ => exact (show u_lay RX9 TX9 4 ∈ xT from List.mem_filter.mpr ⟨List.mem_append_right _ (List.mem_of_getElem? (i := 74) rfl), by rfl⟩)
  | 5, _ => exact (show u_lay RX9 TX9 5 ∈ xT from List.mem_filter.mpr ⟨List.mem_append_right _ (List.mem_of_getElem? (i := 76) rfl), by rfl⟩)
  | 6, _ => exact (show u_lay RX9 TX9 6 ∈ xT from List.mem_filter.mpr ⟨List.mem_append_right _ (List.mem_of_getElem? (i := 78) rfl), by rfl⟩)
  | q + 7, hq => omega
set_option maxRecDepth 100000 in
theorem ft_X9 : xFt RX9 TX9 7 tyX9 := ⟨tyX9_ok, nmX9⟩
set_option maxRecDepth 100000 in
theorem uw_X10 : ∀ w ∈ u_ws RX10 TX10 15, w ∈ xT := by
  intro w hw
  obtain ⟨k, hk, rfl⟩ := List.mem_map.mp hw
  have hk := List.mem_range.mp hk
  match k, hk with
  | 0, _ => exact (show u_lay RX10 TX10 0 ∈ xT from List.mem_filter.mpr ⟨List.mem_append_right _ (List.mem_of_getElem? (i := 331) rfl), by rfl⟩)
  | 1, _ => exact (show u_lay RX10 TX10 1 ∈ xT from List.mem_filter.mpr ⟨List.mem_append_right _ (List.mem_of_getElem? (i := 333) rfl), by rfl⟩)
  | 2, _ => exact (show u_lay RX10 TX10 2 ∈ xT from List.mem_filter.mpr ⟨List.mem_append_right _ (List.mem_of_getElem? (i := 335) rfl), by rfl⟩)
  | 3, _ => exact (show u_lay RX10 TX10 3 ∈ xT from List.mem_filter.mpr ⟨List.mem_append_right _ (List.mem_of_getElem? (i := 337) rfl), by rfl⟩)
  | 4, _ => exact (show u_lay RX10 TX10 4 ∈ xT from List.mem_filter.mpr ⟨List.mem_append_right _ (List.mem_of_getElem? (i := 339) rfl), by rfl⟩)
  | 5, _ => exact (show u_lay RX10 TX10 5 ∈ xT from List.mem_filter.mpr ⟨List.mem_append_right _ (List.mem_of_getElem? (i := 341) rfl), by rfl⟩)
  | 6, _ => exact (show u_lay RX10 TX10 6 ∈ xT from List.mem_filter.mpr ⟨List.mem_append_right _ (List.mem_of_getElem? (i := 343) rfl), by rfl⟩)
  | 7, _ => exact (show u_lay RX10 TX10 7 ∈ xT from List.mem_filter.mpr ⟨List.mem_append_right _ (List.mem_of_getElem? (i := 345) rfl), by rfl⟩)
  | 8, _ => exact (show u_lay RX10 TX10 8 ∈ xT from List.mem_filter.mpr ⟨List.mem_append_right _ (List.mem_of_getElem? (i := 347) rfl), by rfl⟩)
  | 9, _ => exact (show u_lay RX10 TX10 9 ∈ xT from List.mem_filter.mpr ⟨List.mem_append_right _ (List.mem_of_getElem? (i := 349) rfl), by rfl⟩)
  | 10, _ => exact (show u_lay RX10 TX10 10 ∈ xT from List.mem_filter.mpr ⟨List.mem_append_right _ (List.mem_of_getElem? (i := 351) rfl), by rfl⟩)
  | 11, _ => exact (show u_lay RX10 TX10 11 ∈ xT from List.mem_filter.mpr ⟨List.mem_append_right _ (List.mem_of_getElem? (i := 353) rfl), by rfl⟩)
  | 12, _ => exact (show u_lay RX10 TX10 12 ∈ xT from List.mem_filter.mpr ⟨List.mem_append_right _ (List.mem_of_getElem? (i := 355) rfl), by rfl⟩)
  | 13, _ => exact (show u_lay RX10 TX10 13 ∈ xT from List.mem_filter.mpr ⟨List.mem_append_right _ (List.mem_of_getElem? (i := 357) rfl), by rfl⟩)
  | 14, _ => exact (show u_lay RX10 TX10 14 ∈ xT from List.mem_filter.mpr ⟨List.mem_append_right _ (List.mem_of_getElem? (i := 359) rfl), by rfl⟩)
  | q + 15, hq => omega
set_option maxRecDepth 100000 in
theorem ft_X10 : xFt RX10 TX10 15 tyX10 := ⟨tyX10_ok, nmX10⟩
set_option maxRecDepth 100000 in
theorem uw_X11 : ∀ w ∈ u_ws RX11 TX11 5, w ∈ xT := by
  intro w hw
  obtain ⟨k, hk, rfl⟩ := List.mem_map.mp hw
  have hk := List.mem_range.mp hk
  match k, hk with
  | 0, _ => exact (show u_lay RX11 TX11 0 ∈ xT from List.mem_filter.mpr ⟨List.mem_append_right _ (List.mem_of_getElem? (i := 420) rfl), by rfl⟩)
  | 1, _ => exact (show u_lay RX11 TX11 1 ∈ xT from List.mem_filter.mpr ⟨List.mem_append_right _ (List.mem_of_getElem? (i := 422) rfl), by rfl⟩)
  | 2, _ => exact (show u_lay RX11 TX11 2 ∈ xT from List.mem_filter.mpr ⟨List.mem_append_right _ (List.mem_of_getElem? (i := 424) rfl), by rfl⟩)
  | 3, _ => exact (show u_lay RX11 TX11 3 ∈ xT from List.mem_filter.mpr ⟨List.mem_append_right _ (List.mem_of_getElem? (i := 426) rfl), by rfl⟩)
  | 4, _ => exact (show u_lay RX11 TX11 4 ∈ xT from List.mem_filter.mpr ⟨List.mem_append_right _ (List.mem_of_getElem? (i := 428) rfl), by rfl⟩)
  | q + 5, hq => omega
set_option maxRecDepth 100000 in
theorem ft_X11 : xFt RX11 TX11 5 tyX11 := ⟨tyX11_ok, nmX11⟩
set_option maxRecDepth 100000 in
theorem uw_X12 : ∀ w ∈ u_ws RX12 TX12 4, w ∈ xT := by
  intro w hw
  obtain ⟨k, hk, rfl⟩ := List.mem_map.mp hw
  have hk := List.mem_range.mp hk
  match k, hk with
  | 0, _ => exact (show u_lay RX12 TX12 0 ∈ xT from List.mem_filter.mpr ⟨List.mem_append_right _ (List.mem_of_getElem? (i := 1234) rfl), by rfl⟩)
  | 1, _ => exact (show u_lay RX12 TX12 1 ∈ xT from List.mem_filter.mpr ⟨List.mem_append_right _ (List.mem_of_getElem? (i := 1236) rfl), by rfl⟩)
  | 2, _ => exact (show u_lay RX12 TX12 2 ∈ xT from List.mem_filter.mpr ⟨List.mem_append_right _ (List.mem_of_getElem? (i := 1238) rfl), by rfl⟩)
  | 3, _ => exact (show u_lay RX12 TX12 3 ∈ xT from List.mem_filter.mpr ⟨List.mem_append_right _ (List.mem_of_getElem? (i := 1240) rfl), by rfl⟩)
  | q + 4, hq => omega
set_option maxRecDepth 100000 in
theorem ft_X12 : xFt RX12 TX12 4 tyX12 := ⟨tyX12_ok, nmX12⟩
set_option maxRecDepth 100000 in
theorem uw_X13 : ∀ w ∈ u_ws RX13 TX13 1, w ∈ xT := by
  intro w hw
  obtain ⟨k, hk, rfl⟩ := List.mem_map.mp hw
  have hk := List.mem_range.mp hk
  match k, hk with
  | 0, _ => exact (show u_lay RX13 TX13 0 ∈ xT from List.mem_filter.mpr ⟨List.mem_append_right _ (List.mem_of_getElem? (i := 493) rfl), by rfl⟩)
  | q + 1, hq => omega
set_option maxRecDepth 100000 in
theorem ft_X13 : xFt RX13 TX13 1 tyX13 := ⟨tyX13_ok, nmX13⟩
set_option maxRecDepth 100000 in
theorem uw_X14 : ∀ w ∈ u_ws RX14 TX14 14, w ∈ xT := by
  intro w hw
  obtain ⟨k, hk, rfl⟩ := List.mem_map.mp hw
  have hk := List.mem_range.mp hk
  match k, hk with
  | 0, _ => exact (show u_lay RX14 TX14 0 ∈ xT from List.mem_filter.mpr ⟨List.mem_append_right _ (List.mem_of_getElem? (i := 535) rfl), by rfl⟩)
  | 1, _ => exact (show u_lay RX14 TX14 1 ∈ xT from List.mem_filter.mpr ⟨List.mem_append_right _ (List.mem_of_getElem? (i := 537) rfl), by rfl⟩)
  | 2, _ => exact (show u_lay RX14 TX14 2 ∈ xT from List.mem_filter.mpr ⟨List.mem_append_right _ (List.mem_of_getElem? (i := 539) rfl), by rfl⟩)
  | 3, _ => exact (show u_lay RX14 TX14 3 ∈ xT from List.mem_filter.mpr ⟨List.mem_append_right _ (List.mem_of_getElem? (i := 541) rfl), by rfl⟩)
  | 4, _ => exact (show u_lay RX14 TX14 4 ∈ xT from List.mem_filter.mpr ⟨List.mem_append_right _ (List.mem_of_getElem? (i := 543) rfl), by rfl⟩)
  | 5, _ => exact (show u_lay RX14 TX14 5 ∈ xT from List.mem_filter.mpr ⟨List.mem_append_right _ (List.mem_of_getElem? (i := 545) rfl), by rfl⟩)
  | 6, _ => exact (show u_lay RX14 TX14 6 ∈ xT from List.mem_filter.mpr ⟨List.mem_append_right _ (List.mem_of_getElem? (i := 547) rfl), by rfl⟩)
  | 7, _ => exact (show u_lay RX14 TX14 7 ∈ xT from List.mem_filter.mpr ⟨List.mem_append_right _ (List.mem_of_getElem? (i := 549) rfl), by rfl⟩)
  | 8, _ => exact (show u_lay RX14 TX14 8 ∈ xT from List.mem_filter.mpr ⟨List.mem_append_right _ (List.mem_of_getElem? (i := 551) rfl), by rfl⟩)
  | 9, _ => exact (show u_lay RX14 TX14 9 ∈ xT from List.mem_filter.mpr ⟨List.mem_append_right _ (List.mem_of_getElem? (i := 553) rfl), by rfl⟩)
  | 10, _ => exact (show u_lay RX14 TX14 10 ∈ xT from List.mem_filter.mpr ⟨List.mem_append_right _ (List.mem_of_getElem? (i := 555) rfl), by rfl⟩)
  | 11, _ => exact (show u_lay RX14 TX14 11 ∈ xT from List.mem_filter.mpr ⟨List.mem_append_right _ (List.mem_of_getElem? (i := 557) rfl), by rfl⟩)
  | 12, _ => exact (show u_lay RX14 TX14 12 ∈ xT from List.mem_filter.mpr ⟨List.mem_append_right _ (List.mem_of_getElem? (i := 559) rfl), by rfl⟩)
  | 13, _ => exact (show u_lay RX14 TX14 13 ∈ xT from List.mem_filter.mpr ⟨List.mem_append_right _ (List.mem_of_getElem? (i := 561) rfl), by rfl⟩)
  | q + 14, hq => omega
set_option maxRecDepth 100000 in
theorem ft_X14 : xFt RX14 TX14 14 tyX14 := ⟨tyX14_ok, nmX14⟩
set_option maxRecDepth 100000 in
theorem uw_J0 : ∀ w ∈ u_ws RJ0 TJ0 4, w ∈ xT := by
  intro w hw
  obtain ⟨k, hk, rfl⟩ := List.mem_map.mp hw
  have hk := List.mem_range.mp hk
  match k, hk with
  | 0, _ => exact (show u_lay RJ0 TJ0 0 ∈ xT from List.mem_filter.mpr ⟨List.mem_append_right _ (List.mem_of_getElem? (i := 1453) rfl), by rfl⟩)
  | 1, _ => exact (show u_lay RJ0 TJ0 1 ∈ xT from List.mem_filter.mpr ⟨List.mem_append_right _ (List.mem_of_getElem? (i := 1455) rfl), by rfl⟩)
  | 2, _ => exact (show u_lay RJ0 TJ0 2 ∈ xT from List.mem_filter.mpr ⟨List.mem_append_right _ (List.mem_of_getElem? (i := 1457) rfl), by rfl⟩)
  | 3, _ => exact (show u_lay RJ0 TJ0 3 ∈ xT from List.mem_filter.mpr ⟨List.mem_append_right _ (List.mem_of_getElem? (i := 1459) rfl), by rfl⟩)
  | q + 4, hq => omega
set_option maxRecDepth 100000 in
theorem ft_J0 : xFt RJ0 TJ0 4 tyJ0 := ⟨tyJ0_ok, nmJ0⟩
set_option maxRecDepth 100000 in
theorem uw_J4 : ∀ w ∈ u_ws RJ4 TJ4 4, w ∈ xT := by
  intro w hw
  obtain ⟨k, hk, rfl⟩ := List.mem_map.mp hw
  have hk := List.mem_range.mp hk
  match k, hk with
  | 0, _ => exact (show u_lay RJ4 TJ4 0 ∈ xT from List.mem_filter.mpr ⟨List.mem_append_right _ (List.mem_of_getElem? (i := 1271) rfl), by rfl⟩)
  | 1, _ => exact (show u_lay RJ4 TJ4 1 ∈ xT from List.mem_filter.mpr ⟨List.mem_append_right _ (List.mem_of_getElem? (i := 1273) rfl), by rfl⟩)
  | 2, _ => exact (show u_lay RJ4 TJ4 2 ∈ xT from List.mem_filter.mpr ⟨List.mem_append_right _ (List.mem_of_getElem? (i := 1275) rfl), by rfl⟩)
  | 3, _ => exact (show u_lay RJ4 TJ4 3 ∈ xT from List.mem_filter.mpr ⟨List.mem_append_right _ (List.mem_of_getElem? (i := 1277) rfl), by rfl⟩)
  | q + 4, hq => omega
set_option maxRecDepth 100000 in
theorem ft_J4 : xFt RJ4 TJ4 4 tyJ4 := ⟨tyJ4_ok, nmJ4⟩
set_option maxRecDepth 100000 in
theorem in_L : Cond.initialized RL ∈ xT := List.mem_filter.mpr ⟨List.mem_append_right _ (List.mem_of_getElem? (i := 0) rfl), by rfl⟩
set_option maxRecDepth 100000 in
theorem in_X11 : Cond.initialized RX11 ∈ xT := List.mem_filter.mpr ⟨List.mem_append_right _ (List.mem_of_getElem? (i := 1) rfl), by rfl⟩
set_option maxRecDepth 100000 in
theorem in_X8 : Cond.initialized RX8 ∈ xT := List.mem_filter.mpr ⟨List.mem_append_right _ (List.mem_of_getElem? (i := 2) rfl), by rfl⟩
set_option maxRecDepth 100000 in
theorem in_X9 : Cond.initialized RX9 ∈ xT := List.mem_filter.mpr ⟨List.mem_append_right _ (List.mem_of_getElem? (i := 3) rfl), by rfl⟩
set_option maxRecDepth 100000 in
theorem in_X10 : Cond.initialized RX10 ∈ xT := List.mem_filter.mpr ⟨List.mem_append_right _ (List.mem_of_getElem? (i := 4) rfl), by rfl⟩
set_option maxRecDepth 100000 in
theorem in_X2 : Cond.initialized RX2 ∈ xT := List.mem_filter.mpr ⟨List.mem_append_right _ (List.mem_of_getElem? (i := 5) rfl), by rfl⟩
set_option maxRecDepth 100000 in
theorem in_X1 : Cond.initialized RX1 ∈ xT := List.mem_filter.mpr ⟨List.mem_append_right _ (List.mem_of_getElem? (i := 6) rfl), by rfl⟩
set_option maxRecDepth 100000 in
theorem in_X4 : Cond.initialized RX4 ∈ xT := List.mem_filter.mpr ⟨List.mem_append_right _ (List.mem_of_getElem? (i := 7) rfl), by rfl⟩
set_option maxRecDepth 100000 in
theorem in_X5 : Cond.initialized RX5 ∈ xT := List.mem_filter.mpr ⟨List.mem_append_right _ (List.mem_of_getElem? (i := 8) rfl), by rfl⟩
set_option maxRecDepth 100000 in
theorem in_X0 : Cond.initialized RX0 ∈ xT := List.mem_filter.mpr ⟨List.mem_append_right _ (List.mem_of_getElem? (i := 9) rfl), by rfl⟩
set_option maxRecDepth 100000 in
theorem in_X6 : Cond.initialized RX6 ∈ xT := List.mem_filter.mpr ⟨List.mem_append_right _ (List.mem_of_getElem? (i := 10) rfl), by rfl⟩
set_option maxRecDepth 100000 in
theorem in_X7 : Cond.initialized RX7 ∈ xT := List.mem_filter.mpr ⟨List.mem_append_right _ (List.mem_of_getElem? (i := 11) rfl), by rfl⟩
set_option maxRecDepth 100000 in
theorem in_X3 : Cond.initialized RX3 ∈ xT := List.mem_filter.mpr ⟨List.mem_append_right _ (List.mem_of_getElem? (i := 12) rfl), by rfl⟩
set_option maxRecDepth 100000 in
theorem in_X13 : Cond.initialized RX13 ∈ xT := List.mem_filter.mpr ⟨List.mem_append_right _ (List.mem_of_getElem? (i := 13) rfl), by rfl⟩
set_option maxRecDepth 100000 in
theorem in_X14 : Cond.initialized RX14 ∈ xT := List.mem_filter.mpr ⟨List.mem_append_right _ (List.mem_of_getElem? (i := 14) rfl), by rfl⟩
set_option maxRecDepth 100000 in
theorem in_java_lang_Throwable : Cond.initialized "java/lang/Throwable" ∈ xT := List.mem_filter.mpr ⟨List.mem_append_right _ (List.mem_of_getElem? (i := 15) rfl), by rfl⟩
set_option maxRecDepth 100000 in
theorem in_java_lang_Exception : Cond.initialized "java/lang/Exception" ∈ xT := List.mem_filter.mpr ⟨List.mem_append_right _ (List.mem_of_getElem? (i := 16) rfl), by rfl⟩
set_option maxRecDepth 100000 in
theorem in_java_lang_RuntimeException : Cond.initialized "java/lang/RuntimeException" ∈ xT := List.mem_filter.mpr ⟨List.mem_append_right _ (List.mem_of_getElem? (i := 17) rfl), by rfl⟩
set_option maxRecDepth 100000 in
theorem in_java_lang_IllegalArgumentException : Cond.initialized "java/lang/IllegalArgumentException" ∈ xT := List.mem_filter.mpr ⟨List.mem_append_right _ (List.mem_of_getElem? (i := 18) rfl), by rfl⟩
set_option maxRecDepth 100000 in
theorem in_java_lang_IndexOutOfBoundsException : Cond.initialized "java/lang/IndexOutOfBoundsException" ∈ xT := List.mem_filter.mpr ⟨List.mem_append_right _ (List.mem_of_getElem? (i := 19) rfl), by rfl⟩
set_option maxRecDepth 100000 in
theorem in_J10 : Cond.initialized RJ10 ∈ xT := List.mem_filter.mpr ⟨List.mem_append_right _ (List.mem_of_getElem? (i := 20) rfl), by rfl⟩
set_option maxRecDepth 100000 in
theorem in_J9 : Cond.initialized RJ9 ∈ xT := List.mem_filter.mpr ⟨List.mem_append_right _ (List.mem_of_getElem? (i := 21) rfl), by rfl⟩
set_option maxRecDepth 100000 in
theorem in_java_lang_IllegalStateException : Cond.initialized "java/lang/IllegalStateException" ∈ xT := List.mem_filter.mpr ⟨List.mem_append_right _ (List.mem_of_getElem? (i := 22) rfl), by rfl⟩
set_option maxRecDepth 100000 in
theorem in_J0 : Cond.initialized RJ0 ∈ xT := List.mem_filter.mpr ⟨List.mem_append_right _ (List.mem_of_getElem? (i := 23) rfl), by rfl⟩
set_option maxRecDepth 100000 in
theorem in_J1 : Cond.initialized RJ1 ∈ xT := List.mem_filter.mpr ⟨List.mem_append_right _ (List.mem_of_getElem? (i := 24) rfl), by rfl⟩
set_option maxRecDepth 100000 in
theorem in_J3 : Cond.initialized RJ3 ∈ xT := List.mem_filter.mpr ⟨List.mem_append_right _ (List.mem_of_getElem? (i := 25) rfl), by rfl⟩
set_option maxRecDepth 100000 in
theorem in_J2 : Cond.initialized RJ2 ∈ xT := List.mem_filter.mpr ⟨List.mem_append_right _ (List.mem_of_getElem? (i := 26) rfl), by rfl⟩
set_option maxRecDepth 100000 in
theorem in_X12 : Cond.initialized RX12 ∈ xT := List.mem_filter.mpr ⟨List.mem_append_right _ (List.mem_of_getElem? (i := 27) rfl), by rfl⟩
set_option maxRecDepth 100000 in
theorem in_J5 : Cond.initialized RJ5 ∈ xT := List.mem_filter.mpr ⟨List.mem_append_right _ (List.mem_of_getElem? (i := 28) rfl), by rfl⟩
set_option maxRecDepth 100000 in
theorem in_J4 : Cond.initialized RJ4 ∈ xT := List.mem_filter.mpr ⟨List.mem_append_right _ (List.mem_of_getElem? (i := 29) rfl), by rfl⟩
set_option maxRecDepth 100000 in
theorem in_J8 : Cond.initialized RJ8 ∈ xT := List.mem_filter.mpr ⟨List.mem_append_right _ (List.mem_of_getElem? (i := 30) rfl), by rfl⟩
set_option maxRecDepth 100000 in
theorem in_J7 : Cond.initialized RJ7 ∈ xT := List.mem_filter.mpr ⟨List.mem_append_right _ (List.mem_of_getElem? (i := 31) rfl), by rfl⟩
set_option maxRecDepth 100000 in
theorem in_java_lang_Number : Cond.initialized "java/lang/Number" ∈ xT := List.mem_filter.mpr ⟨List.mem_append_right _ (List.mem_of_getElem? (i := 32) rfl), by rfl⟩
set_option maxRecDepth 100000 in
theorem in_J6 : Cond.initialized RJ6 ∈ xT := List.mem_filter.mpr ⟨List.mem_append_right _ (List.mem_of_getElem? (i := 33) rfl), by rfl⟩
set_option maxRecDepth 100000 in
theorem in_java_util_NoSuchElementException : Cond.initialized "java/util/NoSuchElementException" ∈ xT := List.mem_filter.mpr ⟨List.mem_append_right _ (List.mem_of_getElem? (i := 34) rfl), by rfl⟩
set_option maxRecDepth 100000 in
theorem kl_L_14 : Cond.classLink RL 14 RX11 ∈ xT := List.mem_filter.mpr ⟨List.mem_append_right _ (List.mem_of_getElem? (i := 35) rfl), by rfl⟩
set_option maxRecDepth 100000 in
theorem is_X11 : Cond.instantiable RX11 5 ∈ xT := List.mem_filter.mpr ⟨List.mem_append_right _ (List.mem_of_getElem? (i := 36) rfl), by rfl⟩
set_option maxRecDepth 100000 in
theorem im_X11_init : Cond.instanceMethod yX11_init ∈ xT := List.mem_filter.mpr ⟨List.mem_append_right _ (List.mem_of_getElem? (i := 38) rfl), by rfl⟩
set_option maxRecDepth 100000 in
theorem co_X11_init : Cond.code yX11_init cX11_init 1 none ∈ xT := List.mem_filter.mpr ⟨List.mem_append_right _ (List.mem_of_getElem? (i := 39) rfl), by rfl⟩
set_option maxRecDepth 100000 in
theorem kl_X11_7 : Cond.classLink RX11 7 RX8 ∈ xT := List.mem_filter.mpr ⟨List.mem_append_right _ (List.mem_of_getElem? (i := 43) rfl), by rfl⟩
set_option maxRecDepth 100000 in
theorem is_X8 : Cond.instantiable RX8 9 ∈ xT := List.mem_filter.mpr ⟨List.mem_append_right _ (List.mem_of_getElem? (i := 44) rfl), by rfl⟩
set_option maxRecDepth 100000 in
theorem im_X8_init : Cond.instanceMethod yX8_init ∈ xT := List.mem_filter.mpr ⟨List.mem_append_right _ (List.mem_of_getElem? (i := 46) rfl), by rfl⟩
set_option maxRecDepth 100000 in
theorem co_X8_init : Cond.code yX8_init cX8_init 1 none ∈ xT := List.mem_filter.mpr ⟨List.mem_append_right _ (List.mem_of_getElem? (i := 47) rfl), by rfl⟩
set_option maxRecDepth 100000 in
theorem kl_X8_9 : Cond.classLink RX8 9 RX9 ∈ xT := List.mem_filter.mpr ⟨List.mem_append_right _ (List.mem_of_getElem? (i := 49) rfl), by rfl⟩
set_option maxRecDepth 100000 in
theorem is_X9 : Cond.instantiable RX9 7 ∈ xT := List.mem_filter.mpr ⟨List.mem_append_right _ (List.mem_of_getElem? (i := 50) rfl), by rfl⟩
set_option maxRecDepth 100000 in
theorem im_X9_init : Cond.instanceMethod yX9_init ∈ xT := List.mem_filter.mpr ⟨List.mem_append_right _ (List.mem_of_getElem? (i := 52) rfl), by rfl⟩
set_option maxRecDepth 100000 in
theorem co_X9_init : Cond.code yX9_init cX9_init 1 none ∈ xT := List.mem_filter.mpr ⟨List.mem_append_right _ (List.mem_of_getElem? (i := 53) rfl), by rfl⟩
set_option maxRecDepth 100000 in
theorem ac_byte : Cond.arrayClass .byte ∈ xT := List.mem_filter.mpr ⟨List.mem_append_right _ (List.mem_of_getElem? (i := 81) rfl), by rfl⟩
set_option maxRecDepth 100000 in
theorem kl_X8_18 : Cond.classLink RX8 18 RX10 ∈ xT := List.mem_filter.mpr ⟨List.mem_append_right _ (List.mem_of_getElem? (i := 82) rfl), by rfl⟩
set_option maxRecDepth 100000 in
theorem is_X10 : Cond.instantiable RX10 15 ∈ xT := List.mem_filter.mpr ⟨List.mem_append_right _ (List.mem_of_getElem? (i := 83) rfl), by rfl⟩
set_option maxRecDepth 100000 in
theorem im_X10_init : Cond.instanceMethod yX10_init ∈ xT := List.mem_filter.mpr ⟨List.mem_append_right _ (List.mem_of_getElem? (i := 85) rfl), by rfl⟩
set_option maxRecDepth 100000 in
theorem co_X10_init : Cond.code yX10_init cX10_init 1 none ∈ xT := List.mem_filter.mpr ⟨List.mem_append_right _ (List.mem_of_getElem? (i := 86) rfl), by rfl⟩
set_option maxRecDepth 100000 in
theorem kl_X10_9 : Cond.classLink RX10 9 RX2 ∈ xT := List.mem_filter.mpr ⟨List.mem_append_right _ (List.mem_of_getElem? (i := 88) rfl), by rfl⟩
set_option maxRecDepth 100000 in
theorem is_X2 : Cond.instantiable RX2 4 ∈ xT := List.mem_filter.mpr ⟨List.mem_append_right _ (List.mem_of_getElem? (i := 89) rfl), by rfl⟩
set_option maxRecDepth 100000 in
theorem im_X2_init : Cond.instanceMethod yX2_init ∈ xT := List.mem_filter.mpr ⟨List.mem_append_right _ (List.mem_of_getElem? (i := 91) rfl), by rfl⟩
set_option maxRecDepth 100000 in
theorem co_X2_init : Cond.code yX2_init cX2_init 1 none ∈ xT := List.mem_filter.mpr ⟨List.mem_append_right _ (List.mem_of_getElem? (i := 92) rfl), by rfl⟩
set_option maxRecDepth 100000 in
theorem ac_int : Cond.arrayClass .int ∈ xT := List.mem_filter.mpr ⟨List.mem_append_right _ (List.mem_of_getElem? (i := 116) rfl), by rfl⟩
set_option maxRecDepth 100000 in
theorem kl_X10_18 : Cond.classLink RX10 18 RX1 ∈ xT := List.mem_filter.mpr ⟨List.mem_append_right _ (List.mem_of_getElem? (i := 117) rfl), by rfl⟩
set_option maxRecDepth 100000 in
theorem is_X1 : Cond.instantiable RX1 5 ∈ xT := List.mem_filter.mpr ⟨List.mem_append_right _ (List.mem_of_getElem? (i := 118) rfl), by rfl⟩
set_option maxRecDepth 100000 in
theorem im_X1_init : Cond.instanceMethod yX1_init ∈ xT := List.mem_filter.mpr ⟨List.mem_append_right _ (List.mem_of_getElem? (i := 120) rfl), by rfl⟩
set_option maxRecDepth 100000 in
theorem co_X1_init : Cond.code yX1_init cX1_init 1 none ∈ xT := List.mem_filter.mpr ⟨List.mem_append_right _ (List.mem_of_getElem? (i := 121) rfl), by rfl⟩
set_option maxRecDepth 100000 in
theorem kl_X10_25 : Cond.classLink RX10 25 RX4 ∈ xT := List.mem_filter.mpr ⟨List.mem_append_right _ (List.mem_of_getElem? (i := 148) rfl), by rfl⟩
set_option maxRecDepth 100000 in
theorem is_X4 : Cond.instantiable RX4 5 ∈ xT := List.mem_filter.mpr ⟨List.mem_append_right _ (List.mem_of_getElem? (i := 149) rfl), by rfl⟩
set_option maxRecDepth 100000 in
theorem im_X4_init : Cond.instanceMethod yX4_init ∈ xT := List.mem_filter.mpr ⟨List.mem_append_right _ (List.mem_of_getElem? (i := 151) rfl), by rfl⟩
set_option maxRecDepth 100000 in
theorem co_X4_init : Cond.code yX4_init cX4_init 1 none ∈ xT := List.mem_filter.mpr ⟨List.mem_append_right _ (List.mem_of_getElem? (i := 152) rfl), by rfl⟩
set_option maxRecDepth 100000 in
theorem kl_X10_32 : Cond.classLink RX10 32 RX5 ∈ xT := List.mem_filter.mpr ⟨List.mem_append_right _ (List.mem_of_getElem? (i := 174) rfl), by rfl⟩
set_option maxRecDepth 100000 in
theorem is_X5 : Cond.instantiable RX5 9 ∈ xT := List.mem_filter.mpr ⟨List.mem_append_right _ (List.mem_of_getElem? (i := 175) rfl), by rfl⟩
set_option maxRecDepth 100000 in
theorem im_X5_init : Cond.instanceMethod yX5_init ∈ xT := List.mem_filter.mpr ⟨List.mem_append_right _ (List.mem_of_getElem? (i := 177) rfl), by rfl⟩
set_option maxRecDepth 100000 in
theorem co_X5_init : Cond.code yX5_init cX5_init 1 none ∈ xT := List.mem_filter.mpr ⟨List.mem_append_right _ (List.mem_of_getElem? (i := 178) rfl), by rfl⟩
set_option maxRecDepth 100000 in
theorem kl_X10_39 : Cond.classLink RX10 39 RX0 ∈ xT := List.mem_filter.mpr ⟨List.mem_append_right _ (List.mem_of_getElem? (i := 225) rfl), by rfl⟩
set_option maxRecDepth 100000 in
theorem is_X0 : Cond.instantiable RX0 5 ∈ xT := List.mem_filter.mpr ⟨List.mem_append_right _ (List.mem_of_getElem? (i := 226) rfl), by rfl⟩
set_option maxRecDepth 100000 in
theorem im_X0_init : Cond.instanceMethod yX0_init ∈ xT := List.mem_filter.mpr ⟨List.mem_append_right _ (List.mem_of_getElem? (i := 228) rfl), by rfl⟩
set_option maxRecDepth 100000 in
theorem co_X0_init : Cond.code yX0_init cX0_init 1 none ∈ xT := List.mem_filter.mpr ⟨List.mem_append_right _ (List.mem_of_getElem? (i := 229) rfl), by rfl⟩
set_option maxRecDepth 100000 in
theorem kl_X10_46 : Cond.classLink RX10 46 RX6 ∈ xT := List.mem_filter.mpr ⟨List.mem_append_right _ (List.mem_of_getElem? (i := 255) rfl), by rfl⟩
set_option maxRecDepth 100000 in
theorem is_X6 : Cond.instantiable RX6 7 ∈ xT := List.mem_filter.mpr ⟨List.mem_append_right _ (List.mem_of_getElem? (i := 256) rfl), by rfl⟩
set_option maxRecDepth 100000 in
theorem im_X6_init : Cond.instanceMethod yX6_init ∈ xT := List.mem_filter.mpr ⟨List.mem_append_right _ (List.mem_of_getElem? (i := 258) rfl), by rfl⟩
set_option maxRecDepth 100000 in
theorem co_X6_init : Cond.code yX6_init cX6_init 1 none ∈ xT := List.mem_filter.mpr ⟨List.mem_append_right _ (List.mem_of_getElem? (i := 259) rfl), by rfl⟩
set_option maxRecDepth 100000 in
theorem kl_X10_53 : Cond.classLink RX10 53 RX7 ∈ xT := List.mem_filter.mpr ⟨List.mem_append_right _ (List.mem_of_getElem? (i := 283) rfl), by rfl⟩
set_option maxRecDepth 100000 in
theorem is_X7 : Cond.instantiable RX7 2 ∈ xT := List.mem_filter.mpr ⟨List.mem_append_right _ (List.mem_of_getElem? (i := 284) rfl), by rfl⟩
set_option maxRecDepth 100000 in
theorem im_X7_init : Cond.instanceMethod yX7_init ∈ xT := List.mem_filter.mpr ⟨List.mem_append_right _ (List.mem_of_getElem? (i := 286) rfl), by rfl⟩
set_option maxRecDepth 100000 in
theorem co_X7_init : Cond.code yX7_init cX7_init 2 none ∈ xT := List.mem_filter.mpr ⟨List.mem_append_right _ (List.mem_of_getElem? (i := 287) rfl), by rfl⟩
set_option maxRecDepth 100000 in
theorem kc_X10_75 : Cond.constant RX10 75 (Int32.ofInt (1000000)) ∈ xT := List.mem_filter.mpr ⟨List.mem_append_right _ (List.mem_of_getElem? (i := 296) rfl), by rfl⟩
set_option maxRecDepth 100000 in
theorem kl_X11_16 : Cond.classLink RX11 16 RX10 ∈ xT := List.mem_filter.mpr ⟨List.mem_append_right _ (List.mem_of_getElem? (i := 394) rfl), by rfl⟩
set_option maxRecDepth 100000 in
theorem kl_X11_26 : Cond.classLink RX11 26 RX3 ∈ xT := List.mem_filter.mpr ⟨List.mem_append_right _ (List.mem_of_getElem? (i := 396) rfl), by rfl⟩
set_option maxRecDepth 100000 in
theorem is_X3 : Cond.instantiable RX3 3 ∈ xT := List.mem_filter.mpr ⟨List.mem_append_right _ (List.mem_of_getElem? (i := 397) rfl), by rfl⟩
set_option maxRecDepth 100000 in
theorem im_X3_init : Cond.instanceMethod yX3_init ∈ xT := List.mem_filter.mpr ⟨List.mem_append_right _ (List.mem_of_getElem? (i := 399) rfl), by rfl⟩
set_option maxRecDepth 100000 in
theorem co_X3_init : Cond.code yX3_init cX3_init 2 none ∈ xT := List.mem_filter.mpr ⟨List.mem_append_right _ (List.mem_of_getElem? (i := 400) rfl), by rfl⟩
set_option maxRecDepth 100000 in
theorem kl_X3_9 : Cond.classLink RX3 9 RX10 ∈ xT := List.mem_filter.mpr ⟨List.mem_append_right _ (List.mem_of_getElem? (i := 402) rfl), by rfl⟩
set_option maxRecDepth 100000 in
theorem im_X11_errorOffset : Cond.instanceMethod yX11_errorOffset ∈ xT := List.mem_filter.mpr ⟨List.mem_append_right _ (List.mem_of_getElem? (i := 432) rfl), by rfl⟩
set_option maxRecDepth 100000 in
theorem se_X11_errorOffset : Cond.selects yX11_errorOffset.cls yX11_errorOffset yX11_errorOffset ∈ xT := List.mem_filter.mpr ⟨List.mem_append_right _ (List.mem_of_getElem? (i := 433) rfl), by rfl⟩
set_option maxRecDepth 100000 in
theorem co_X11_errorOffset : Cond.code yX11_errorOffset cX11_errorOffset 1 (some .int) ∈ xT := List.mem_filter.mpr ⟨List.mem_append_right _ (List.mem_of_getElem? (i := 434) rfl), by rfl⟩
set_option maxRecDepth 100000 in
theorem im_X11_undo : Cond.instanceMethod yX11_undo ∈ xT := List.mem_filter.mpr ⟨List.mem_append_right _ (List.mem_of_getElem? (i := 436) rfl), by rfl⟩
set_option maxRecDepth 100000 in
theorem se_X11_undo : Cond.selects yX11_undo.cls yX11_undo yX11_undo ∈ xT := List.mem_filter.mpr ⟨List.mem_append_right _ (List.mem_of_getElem? (i := 437) rfl), by rfl⟩
set_option maxRecDepth 100000 in
theorem co_X11_undo : Cond.code yX11_undo cX11_undo 1 (some .int) ∈ xT := List.mem_filter.mpr ⟨List.mem_append_right _ (List.mem_of_getElem? (i := 438) rfl), by rfl⟩
set_option maxRecDepth 100000 in
theorem im_X3_takeBack : Cond.instanceMethod yX3_takeBack ∈ xT := List.mem_filter.mpr ⟨List.mem_append_right _ (List.mem_of_getElem? (i := 440) rfl), by rfl⟩
set_option maxRecDepth 100000 in
theorem se_X3_takeBack : Cond.selects yX3_takeBack.cls yX3_takeBack yX3_takeBack ∈ xT := List.mem_filter.mpr ⟨List.mem_append_right _ (List.mem_of_getElem? (i := 441) rfl), by rfl⟩
set_option maxRecDepth 100000 in
theorem co_X3_takeBack : Cond.code yX3_takeBack cX3_takeBack 4 (some .int) ∈ xT := List.mem_filter.mpr ⟨List.mem_append_right _ (List.mem_of_getElem? (i := 442) rfl), by rfl⟩
set_option maxRecDepth 100000 in
theorem im_X3_at : Cond.instanceMethod yX3_at ∈ xT := List.mem_filter.mpr ⟨List.mem_append_right _ (List.mem_of_getElem? (i := 445) rfl), by rfl⟩
set_option maxRecDepth 100000 in
theorem co_X3_at : Cond.code yX3_at cX3_at 2 (some (.object "PacketToll$World")) ∈ xT := List.mem_filter.mpr ⟨List.mem_append_right _ (List.mem_of_getElem? (i := 446) rfl), by rfl⟩
set_option maxRecDepth 100000 in
theorem im_X10_copyFrom : Cond.instanceMethod yX10_copyFrom ∈ xT := List.mem_filter.mpr ⟨List.mem_append_right _ (List.mem_of_getElem? (i := 448) rfl), by rfl⟩
set_option maxRecDepth 100000 in
theorem se_X10_copyFrom : Cond.selects yX10_copyFrom.cls yX10_copyFrom yX10_copyFrom ∈ xT := List.mem_filter.mpr ⟨List.mem_append_right _ (List.mem_of_getElem? (i := 449) rfl), by rfl⟩
set_option maxRecDepth 100000 in
theorem co_X10_copyFrom : Cond.code yX10_copyFrom cX10_copyFrom 2 none ∈ xT := List.mem_filter.mpr ⟨List.mem_append_right _ (List.mem_of_getElem? (i := 450) rfl), by rfl⟩
set_option maxRecDepth 100000 in
theorem im_X2_copyFrom : Cond.instanceMethod yX2_copyFrom ∈ xT := List.mem_filter.mpr ⟨List.mem_append_right _ (List.mem_of_getElem? (i := 452) rfl), by rfl⟩
set_option maxRecDepth 100000 in
theorem se_X2_copyFrom : Cond.selects yX2_copyFrom.cls yX2_copyFrom yX2_copyFrom ∈ xT := List.mem_filter.mpr ⟨List.mem_append_right _ (List.mem_of_getElem? (i := 453) rfl), by rfl⟩
set_option maxRecDepth 100000 in
theorem co_X2_copyFrom : Cond.code yX2_copyFrom cX2_copyFrom 2 none ∈ xT := List.mem_filter.mpr ⟨List.mem_append_right _ (List.mem_of_getElem? (i := 454) rfl), by rfl⟩
set_option maxRecDepth 100000 in
theorem sm_X11_copyRow : Cond.static yX11_copyRow ∈ xT := List.mem_filter.mpr ⟨List.mem_append_right _ (List.mem_of_getElem? (i := 456) rfl), by rfl⟩
set_option maxRecDepth 100000 in
theorem co_X11_copyRow : Cond.code yX11_copyRow cX11_copyRow 3 none ∈ xT := List.mem_filter.mpr ⟨List.mem_append_right _ (List.mem_of_getElem? (i := 457) rfl), by rfl⟩
set_option maxRecDepth 100000 in
theorem im_X1_copyFrom : Cond.instanceMethod yX1_copyFrom ∈ xT := List.mem_filter.mpr ⟨List.mem_append_right _ (List.mem_of_getElem? (i := 462) rfl), by rfl⟩
set_option maxRecDepth 100000 in
theorem se_X1_copyFrom : Cond.selects yX1_copyFrom.cls yX1_copyFrom yX1_copyFrom ∈ xT := List.mem_filter.mpr ⟨List.mem_append_right _ (List.mem_of_getElem? (i := 463) rfl), by rfl⟩
set_option maxRecDepth 100000 in
theorem co_X1_copyFrom : Cond.code yX1_copyFrom cX1_copyFrom 2 none ∈ xT := List.mem_filter.mpr ⟨List.mem_append_right _ (List.mem_of_getElem? (i := 464) rfl), by rfl⟩
set_option maxRecDepth 100000 in
theorem im_X4_copyFrom : Cond.instanceMethod yX4_copyFrom ∈ xT := List.mem_filter.mpr ⟨List.mem_append_right _ (List.mem_of_getElem? (i := 467) rfl), by rfl⟩
set_option maxRecDepth 100000 in
theorem se_X4_copyFrom : Cond.selects yX4_copyFrom.cls yX4_copyFrom yX4_copyFrom ∈ xT := List.mem_filter.mpr ⟨List.mem_append_right _ (List.mem_of_getElem? (i := 468) rfl), by rfl⟩
set_option maxRecDepth 100000 in
theorem co_X4_copyFrom : Cond.code yX4_copyFrom cX4_copyFrom 2 none ∈ xT := List.mem_filter.mpr ⟨List.mem_append_right _ (List.mem_of_getElem? (i := 469) rfl), by rfl⟩
set_option maxRecDepth 100000 in
theorem im_X5_copyFrom : Cond.instanceMethod yX5_copyFrom ∈ xT := List.mem_filter.mpr ⟨List.mem_append_right _ (List.mem_of_getElem? (i := 472) rfl), by rfl⟩
set_option maxRecDepth 100000 in
theorem se_X5_copyFrom : Cond.selects yX5_copyFrom.cls yX5_copyFrom yX5_copyFrom ∈ xT := List.mem_filter.mpr ⟨List.mem_append_right _ (List.mem_of_getElem? (i := 473) rfl), by rfl⟩
set_option maxRecDepth 100000 in
theorem co_X5_copyFrom : Cond.code yX5_copyFrom cX5_copyFrom 2 none ∈ xT := List.mem_filter.mpr ⟨List.mem_append_right _ (List.mem_of_getElem? (i := 474) rfl), by rfl⟩
set_option maxRecDepth 100000 in
theorem im_X0_copyFrom : Cond.instanceMethod yX0_copyFrom ∈ xT := List.mem_filter.mpr ⟨List.mem_append_right _ (List.mem_of_getElem? (i := 477) rfl), by rfl⟩
set_option maxRecDepth 100000 in
theorem se_X0_copyFrom : Cond.selects yX0_copyFrom.cls yX0_copyFrom yX0_copyFrom ∈ xT := List.mem_filter.mpr ⟨List.mem_append_right _ (List.mem_of_getElem? (i := 478) rfl), by rfl⟩
set_option maxRecDepth 100000 in
theorem co_X0_copyFrom : Cond.code yX0_copyFrom cX0_copyFrom 2 none ∈ xT := List.mem_filter.mpr ⟨List.mem_append_right _ (List.mem_of_getElem? (i := 479) rfl), by rfl⟩
set_option maxRecDepth 100000 in
theorem im_X6_copyFrom : Cond.instanceMethod yX6_copyFrom ∈ xT := List.mem_filter.mpr ⟨List.mem_append_right _ (List.mem_of_getElem? (i := 482) rfl), by rfl⟩
set_option maxRecDepth 100000 in
theorem se_X6_copyFrom : Cond.selects yX6_copyFrom.cls yX6_copyFrom yX6_copyFrom ∈ xT := List.mem_filter.mpr ⟨List.mem_append_right _ (List.mem_of_getElem? (i := 483) rfl), by rfl⟩
set_option maxRecDepth 100000 in
theorem co_X6_copyFrom : Cond.code yX6_copyFrom cX6_copyFrom 2 none ∈ xT := List.mem_filter.mpr ⟨List.mem_append_right _ (List.mem_of_getElem? (i := 484) rfl), by rfl⟩
set_option maxRecDepth 100000 in
theorem kl_L_129 : Cond.classLink RL 129 RX13 ∈ xT := List.mem_filter.mpr ⟨List.mem_append_right _ (List.mem_of_getElem? (i := 486) rfl), by rfl⟩
set_option maxRecDepth 100000 in
theorem is_X13 : Cond.instantiable RX13 1 ∈ xT := List.mem_filter.mpr ⟨List.mem_append_right _ (List.mem_of_getElem? (i := 487) rfl), by rfl⟩
set_option maxRecDepth 100000 in
theorem im_X13_init : Cond.instanceMethod yX13_init ∈ xT := List.mem_filter.mpr ⟨List.mem_append_right _ (List.mem_of_getElem? (i := 489) rfl), by rfl⟩
set_option maxRecDepth 100000 in
theorem co_X13_init : Cond.code yX13_init cX13_init 2 none ∈ xT := List.mem_filter.mpr ⟨List.mem_append_right _ (List.mem_of_getElem? (i := 490) rfl), by rfl⟩
set_option maxRecDepth 100000 in
theorem im_X13_below : Cond.instanceMethod yX13_below ∈ xT := List.mem_filter.mpr ⟨List.mem_append_right _ (List.mem_of_getElem? (i := 497) rfl), by rfl⟩
set_option maxRecDepth 100000 in
theorem se_X13_below : Cond.selects yX13_below.cls yX13_below yX13_below ∈ xT := List.mem_filter.mpr ⟨List.mem_append_right _ (List.mem_of_getElem? (i := 498) rfl), by rfl⟩
set_option maxRecDepth 100000 in
theorem co_X13_below : Cond.code yX13_below cX13_below 2 (some .int) ∈ xT := List.mem_filter.mpr ⟨List.mem_append_right _ (List.mem_of_getElem? (i := 499) rfl), by rfl⟩
set_option maxRecDepth 100000 in
theorem kc_X13_13 : Cond.constant RX13 13 (Int32.ofInt (1103515245)) ∈ xT := List.mem_filter.mpr ⟨List.mem_append_right _ (List.mem_of_getElem? (i := 500) rfl), by rfl⟩
set_option maxRecDepth 100000 in
theorem kl_L_123 : Cond.classLink RL 123 RX14 ∈ xT := List.mem_filter.mpr ⟨List.mem_append_right _ (List.mem_of_getElem? (i := 501) rfl), by rfl⟩
set_option maxRecDepth 100000 in
theorem is_X14 : Cond.instantiable RX14 14 ∈ xT := List.mem_filter.mpr ⟨List.mem_append_right _ (List.mem_of_getElem? (i := 502) rfl), by rfl⟩
set_option maxRecDepth 100000 in
theorem im_X14_init : Cond.instanceMethod yX14_init ∈ xT := List.mem_filter.mpr ⟨List.mem_append_right _ (List.mem_of_getElem? (i := 504) rfl), by rfl⟩
set_option maxRecDepth 100000 in
theorem co_X14_init : Cond.code yX14_init cX14_init 1 none ∈ xT := List.mem_filter.mpr ⟨List.mem_append_right _ (List.mem_of_getElem? (i := 505) rfl), by rfl⟩
set_option maxRecDepth 100000 in
theorem kl_X14_7 : Cond.classLink RX14 7 "[I" ∈ xT := List.mem_filter.mpr ⟨List.mem_append_right _ (List.mem_of_getElem? (i := 507) rfl), by rfl⟩
set_option maxRecDepth 100000 in
theorem kl_X14_30 : Cond.classLink RX14 30 "[[I" ∈ xT := List.mem_filter.mpr ⟨List.mem_append_right _ (List.mem_of_getElem? (i := 509) rfl), by rfl⟩
set_option maxRecDepth 100000 in
theorem im_X14_copy : Cond.instanceMethod yX14_copy ∈ xT := List.mem_filter.mpr ⟨List.mem_append_right _ (List.mem_of_getElem? (i := 565) rfl), by rfl⟩
set_option maxRecDepth 100000 in
theorem se_X14_copy : Cond.selects yX14_copy.cls yX14_copy yX14_copy ∈ xT := List.mem_filter.mpr ⟨List.mem_append_right _ (List.mem_of_getElem? (i := 566) rfl), by rfl⟩
set_option maxRecDepth 100000 in
theorem co_X14_copy : Cond.code yX14_copy cX14_copy 2 (some (.object "PacketTollLaw$Road")) ∈ xT := List.mem_filter.mpr ⟨List.mem_append_right _ (List.mem_of_getElem? (i := 567) rfl), by rfl⟩
set_option maxRecDepth 100000 in
theorem kl_X14_10 : Cond.classLink RX14 10 RX14 ∈ xT := List.mem_filter.mpr ⟨List.mem_append_right _ (List.mem_of_getElem? (i := 568) rfl), by rfl⟩
set_option maxRecDepth 100000 in
theorem sm_L_copied : Cond.static yL_copied ∈ xT := List.mem_filter.mpr ⟨List.mem_append_right _ (List.mem_of_getElem? (i := 571) rfl), by rfl⟩
set_option maxRecDepth 100000 in
theorem co_L_copied : Cond.code yL_copied cL_copied 3 (some (.array (.array .int))) ∈ xT := List.mem_filter.mpr ⟨List.mem_append_right _ (List.mem_of_getElem? (i := 572) rfl), by rfl⟩
set_option maxRecDepth 100000 in
theorem kl_L_108 : Cond.classLink RL 108 "[I" ∈ xT := List.mem_filter.mpr ⟨List.mem_append_right _ (List.mem_of_getElem? (i := 573) rfl), by rfl⟩
set_option maxRecDepth 100000 in
theorem im_X14_tick : Cond.instanceMethod yX14_tick ∈ xT := List.mem_filter.mpr ⟨List.mem_append_right _ (List.mem_of_getElem? (i := 581) rfl), by rfl⟩
set_option maxRecDepth 100000 in
theorem se_X14_tick : Cond.selects yX14_tick.cls yX14_tick yX14_tick ∈ xT := List.mem_filter.mpr ⟨List.mem_append_right _ (List.mem_of_getElem? (i := 582) rfl), by rfl⟩
set_option maxRecDepth 100000 in
theorem co_X14_tick : Cond.code yX14_tick cX14_tick 5 none ∈ xT := List.mem_filter.mpr ⟨List.mem_append_right _ (List.mem_of_getElem? (i := 583) rfl), by rfl⟩
set_option maxRecDepth 100000 in
theorem sm_J9_min_7cf53 : Cond.static yJ9_min_7cf53 ∈ xT := List.mem_filter.mpr ⟨List.mem_append_right _ (List.mem_of_getElem? (i := 585) rfl), by rfl⟩
set_option maxRecDepth 100000 in
theorem co_J9_min_7cf53 : Cond.code yJ9_min_7cf53 cJ9_min_7cf53 2 (some .int) ∈ xT := List.mem_filter.mpr ⟨List.mem_append_right _ (List.mem_of_getElem? (i := 586) rfl), by rfl⟩
set_option maxRecDepth 100000 in
theorem sm_L_without : Cond.static yL_without ∈ xT := List.mem_filter.mpr ⟨List.mem_append_right _ (List.mem_of_getElem? (i := 588) rfl), by rfl⟩
set_option maxRecDepth 100000 in
theorem co_L_without : Cond.code yL_without cL_without 4 (some (.array (.array .int))) ∈ xT := List.mem_filter.mpr ⟨List.mem_append_right _ (List.mem_of_getElem? (i := 589) rfl), by rfl⟩
set_option maxRecDepth 100000 in
theorem im_X14_arrives : Cond.instanceMethod yX14_arrives ∈ xT := List.mem_filter.mpr ⟨List.mem_append_right _ (List.mem_of_getElem? (i := 591) rfl), by rfl⟩
set_option maxRecDepth 100000 in
theorem se_X14_arrives : Cond.selects yX14_arrives.cls yX14_arrives yX14_arrives ∈ xT := List.mem_filter.mpr ⟨List.mem_append_right _ (List.mem_of_getElem? (i := 592) rfl), by rfl⟩
set_option maxRecDepth 100000 in
theorem co_X14_arrives : Cond.code yX14_arrives cX14_arrives 3 none ∈ xT := List.mem_filter.mpr ⟨List.mem_append_right _ (List.mem_of_getElem? (i := 593) rfl), by rfl⟩
set_option maxRecDepth 100000 in
theorem im_X14_gateOf : Cond.instanceMethod yX14_gateOf ∈ xT := List.mem_filter.mpr ⟨List.mem_append_right _ (List.mem_of_getElem? (i := 595) rfl), by rfl⟩
set_option maxRecDepth 100000 in
theorem se_X14_gateOf : Cond.selects yX14_gateOf.cls yX14_gateOf yX14_gateOf ∈ xT := List.mem_filter.mpr ⟨List.mem_append_right _ (List.mem_of_getElem? (i := 596) rfl), by rfl⟩
set_option maxRecDepth 100000 in
theorem co_X14_gateOf : Cond.code yX14_gateOf cX14_gateOf 2 (some .int) ∈ xT := List.mem_filter.mpr ⟨List.mem_append_right _ (List.mem_of_getElem? (i := 597) rfl), by rfl⟩
set_option maxRecDepth 100000 in
theorem im_X14_queue : Cond.instanceMethod yX14_queue ∈ xT := List.mem_filter.mpr ⟨List.mem_append_right _ (List.mem_of_getElem? (i := 599) rfl), by rfl⟩
set_option maxRecDepth 100000 in
theorem se_X14_queue : Cond.selects yX14_queue.cls yX14_queue yX14_queue ∈ xT := List.mem_filter.mpr ⟨List.mem_append_right _ (List.mem_of_getElem? (i := 600) rfl), by rfl⟩
set_option maxRecDepth 100000 in
theorem co_X14_queue : Cond.code yX14_queue cX14_queue 8 (some .int) ∈ xT := List.mem_filter.mpr ⟨List.mem_append_right _ (List.mem_of_getElem? (i := 601) rfl), by rfl⟩
set_option maxRecDepth 100000 in
theorem sm_L_with : Cond.static yL_with ∈ xT := List.mem_filter.mpr ⟨List.mem_append_right _ (List.mem_of_getElem? (i := 603) rfl), by rfl⟩
set_option maxRecDepth 100000 in
theorem co_L_with : Cond.code yL_with cL_with 4 (some (.array (.array .int))) ∈ xT := List.mem_filter.mpr ⟨List.mem_append_right _ (List.mem_of_getElem? (i := 604) rfl), by rfl⟩
set_option maxRecDepth 100000 in
theorem im_X14_passes : Cond.instanceMethod yX14_passes ∈ xT := List.mem_filter.mpr ⟨List.mem_append_right _ (List.mem_of_getElem? (i := 606) rfl), by rfl⟩
set_option maxRecDepth 100000 in
theorem se_X14_passes : Cond.selects yX14_passes.cls yX14_passes yX14_passes ∈ xT := List.mem_filter.mpr ⟨List.mem_append_right _ (List.mem_of_getElem? (i := 607) rfl), by rfl⟩
set_option maxRecDepth 100000 in
theorem co_X14_passes : Cond.code yX14_passes cX14_passes 12 (some .boolean) ∈ xT := List.mem_filter.mpr ⟨List.mem_append_right _ (List.mem_of_getElem? (i := 608) rfl), by rfl⟩
set_option maxRecDepth 100000 in
theorem im_X14_first : Cond.instanceMethod yX14_first ∈ xT := List.mem_filter.mpr ⟨List.mem_append_right _ (List.mem_of_getElem? (i := 610) rfl), by rfl⟩
set_option maxRecDepth 100000 in
theorem se_X14_first : Cond.selects yX14_first.cls yX14_first yX14_first ∈ xT := List.mem_filter.mpr ⟨List.mem_append_right _ (List.mem_of_getElem? (i := 611) rfl), by rfl⟩
set_option maxRecDepth 100000 in
theorem co_X14_first : Cond.code yX14_first cX14_first 8 (some (.array .int)) ∈ xT := List.mem_filter.mpr ⟨List.mem_append_right _ (List.mem_of_getElem? (i := 612) rfl), by rfl⟩
set_option maxRecDepth 100000 in
theorem im_X14_sum : Cond.instanceMethod yX14_sum ∈ xT := List.mem_filter.mpr ⟨List.mem_append_right _ (List.mem_of_getElem? (i := 614) rfl), by rfl⟩
set_option maxRecDepth 100000 in
theorem se_X14_sum : Cond.selects yX14_sum.cls yX14_sum yX14_sum ∈ xT := List.mem_filter.mpr ⟨List.mem_append_right _ (List.mem_of_getElem? (i := 615) rfl), by rfl⟩
set_option maxRecDepth 100000 in
theorem co_X14_sum : Cond.code yX14_sum cX14_sum 7 (some .int) ∈ xT := List.mem_filter.mpr ⟨List.mem_append_right _ (List.mem_of_getElem? (i := 616) rfl), by rfl⟩
set_option maxRecDepth 100000 in
theorem sm_J9_max_7cf53 : Cond.static yJ9_max_7cf53 ∈ xT := List.mem_filter.mpr ⟨List.mem_append_right _ (List.mem_of_getElem? (i := 618) rfl), by rfl⟩
set_option maxRecDepth 100000 in
theorem co_J9_max_7cf53 : Cond.code yJ9_max_7cf53 cJ9_max_7cf53 2 (some .int) ∈ xT := List.mem_filter.mpr ⟨List.mem_append_right _ (List.mem_of_getElem? (i := 619) rfl), by rfl⟩
set_option maxRecDepth 100000 in
theorem im_X12_value : Cond.instanceMethod yX12_value ∈ xT := List.mem_filter.mpr ⟨List.mem_append_right _ (List.mem_of_getElem? (i := 621) rfl), by rfl⟩
set_option maxRecDepth 100000 in
theorem se_X12_value : Cond.selects yX12_value.cls yX12_value yX12_value ∈ xT := List.mem_filter.mpr ⟨List.mem_append_right _ (List.mem_of_getElem? (i := 622) rfl), by rfl⟩
set_option maxRecDepth 100000 in
theorem co_X12_value : Cond.code yX12_value cX12_value 8 (some .long) ∈ xT := List.mem_filter.mpr ⟨List.mem_append_right _ (List.mem_of_getElem? (i := 623) rfl), by rfl⟩
set_option maxRecDepth 100000 in
theorem kc_X12_76 : Cond.constantLong RX12 76 (Int64.ofInt (-1000000)) ∈ xT := List.mem_filter.mpr ⟨List.mem_append_right _ (List.mem_of_getElem? (i := 625) rfl), by rfl⟩
set_option maxRecDepth 100000 in
theorem kc_X12_78 : Cond.constantLong RX12 78 (Int64.ofInt (1000000)) ∈ xT := List.mem_filter.mpr ⟨List.mem_append_right _ (List.mem_of_getElem? (i := 626) rfl), by rfl⟩
set_option maxRecDepth 100000 in
theorem sm_J9_min_f86c9 : Cond.static yJ9_min_f86c9 ∈ xT := List.mem_filter.mpr ⟨List.mem_append_right _ (List.mem_of_getElem? (i := 628) rfl), by rfl⟩
set_option maxRecDepth 100000 in
theorem co_J9_min_f86c9 : Cond.code yJ9_min_f86c9 cJ9_min_f86c9 4 (some .long) ∈ xT := List.mem_filter.mpr ⟨List.mem_append_right _ (List.mem_of_getElem? (i := 629) rfl), by rfl⟩
set_option maxRecDepth 100000 in
theorem sm_J9_max_f86c9 : Cond.static yJ9_max_f86c9 ∈ xT := List.mem_filter.mpr ⟨List.mem_append_right _ (List.mem_of_getElem? (i := 631) rfl), by rfl⟩
set_option maxRecDepth 100000 in
theorem co_J9_max_f86c9 : Cond.code yJ9_max_f86c9 cJ9_max_f86c9 4 (some .long) ∈ xT := List.mem_filter.mpr ⟨List.mem_append_right _ (List.mem_of_getElem? (i := 632) rfl), by rfl⟩
set_option maxRecDepth 100000 in
theorem kc_X14_98 : Cond.constantLong RX14 98 (Int64.ofInt (9999)) ∈ xT := List.mem_filter.mpr ⟨List.mem_append_right _ (List.mem_of_getElem? (i := 633) rfl), by rfl⟩
set_option maxRecDepth 100000 in
theorem ac_long : Cond.arrayClass .long ∈ xT := List.mem_filter.mpr ⟨List.mem_append_right _ (List.mem_of_getElem? (i := 636) rfl), by rfl⟩
set_option maxRecDepth 100000 in
theorem im_X14_count : Cond.instanceMethod yX14_count ∈ xT := List.mem_filter.mpr ⟨List.mem_append_right _ (List.mem_of_getElem? (i := 638) rfl), by rfl⟩
set_option maxRecDepth 100000 in
theorem se_X14_count : Cond.selects yX14_count.cls yX14_count yX14_count ∈ xT := List.mem_filter.mpr ⟨List.mem_append_right _ (List.mem_of_getElem? (i := 639) rfl), by rfl⟩
set_option maxRecDepth 100000 in
theorem co_X14_count : Cond.code yX14_count cX14_count 7 (some .int) ∈ xT := List.mem_filter.mpr ⟨List.mem_append_right _ (List.mem_of_getElem? (i := 640) rfl), by rfl⟩
set_option maxRecDepth 100000 in
theorem sm_L_load : Cond.static yL_load ∈ xT := List.mem_filter.mpr ⟨List.mem_append_right _ (List.mem_of_getElem? (i := 642) rfl), by rfl⟩
set_option maxRecDepth 100000 in
theorem kl_L_40 : Cond.classLink RL 40 "java/lang/IllegalArgumentException" ∈ xT := List.mem_filter.mpr ⟨List.mem_append_right _ (List.mem_of_getElem? (i := 644) rfl), by rfl⟩
set_option maxRecDepth 100000 in
theorem im_X11_load : Cond.instanceMethod yX11_load ∈ xT := List.mem_filter.mpr ⟨List.mem_append_right _ (List.mem_of_getElem? (i := 646) rfl), by rfl⟩
set_option maxRecDepth 100000 in
theorem se_X11_load : Cond.selects yX11_load.cls yX11_load yX11_load ∈ xT := List.mem_filter.mpr ⟨List.mem_append_right _ (List.mem_of_getElem? (i := 647) rfl), by rfl⟩
set_option maxRecDepth 100000 in
theorem co_X11_load : Cond.code yX11_load cX11_load 2 (some .int) ∈ xT := List.mem_filter.mpr ⟨List.mem_append_right _ (List.mem_of_getElem? (i := 648) rfl), by rfl⟩
set_option maxRecDepth 100000 in
theorem kl_X11_50 : Cond.classLink RX11 50 "java/lang/IllegalArgumentException" ∈ xT := List.mem_filter.mpr ⟨List.mem_append_right _ (List.mem_of_getElem? (i := 649) rfl), by rfl⟩
set_option maxRecDepth 100000 in
theorem im_X8_read : Cond.instanceMethod yX8_read ∈ xT := List.mem_filter.mpr ⟨List.mem_append_right _ (List.mem_of_getElem? (i := 718) rfl), by rfl⟩
set_option maxRecDepth 100000 in
theorem se_X8_read : Cond.selects yX8_read.cls yX8_read yX8_read ∈ xT := List.mem_filter.mpr ⟨List.mem_append_right _ (List.mem_of_getElem? (i := 719) rfl), by rfl⟩
set_option maxRecDepth 100000 in
theorem co_X8_read : Cond.code yX8_read cX8_read 3 none ∈ xT := List.mem_filter.mpr ⟨List.mem_append_right _ (List.mem_of_getElem? (i := 720) rfl), by rfl⟩
set_option maxRecDepth 100000 in
theorem im_X10_clear : Cond.instanceMethod yX10_clear ∈ xT := List.mem_filter.mpr ⟨List.mem_append_right _ (List.mem_of_getElem? (i := 722) rfl), by rfl⟩
set_option maxRecDepth 100000 in
theorem se_X10_clear : Cond.selects yX10_clear.cls yX10_clear yX10_clear ∈ xT := List.mem_filter.mpr ⟨List.mem_append_right _ (List.mem_of_getElem? (i := 723) rfl), by rfl⟩
set_option maxRecDepth 100000 in
theorem co_X10_clear : Cond.code yX10_clear cX10_clear 1 none ∈ xT := List.mem_filter.mpr ⟨List.mem_append_right _ (List.mem_of_getElem? (i := 724) rfl), by rfl⟩
set_option maxRecDepth 100000 in
theorem im_X6_clear : Cond.instanceMethod yX6_clear ∈ xT := List.mem_filter.mpr ⟨List.mem_append_right _ (List.mem_of_getElem? (i := 726) rfl), by rfl⟩
set_option maxRecDepth 100000 in
theorem se_X6_clear : Cond.selects yX6_clear.cls yX6_clear yX6_clear ∈ xT := List.mem_filter.mpr ⟨List.mem_append_right _ (List.mem_of_getElem? (i := 727) rfl), by rfl⟩
set_option maxRecDepth 100000 in
theorem co_X6_clear : Cond.code yX6_clear cX6_clear 1 none ∈ xT := List.mem_filter.mpr ⟨List.mem_append_right _ (List.mem_of_getElem? (i := 728) rfl), by rfl⟩
set_option maxRecDepth 100000 in
theorem im_X9_open : Cond.instanceMethod yX9_open ∈ xT := List.mem_filter.mpr ⟨List.mem_append_right _ (List.mem_of_getElem? (i := 730) rfl), by rfl⟩
set_option maxRecDepth 100000 in
theorem se_X9_open : Cond.selects yX9_open.cls yX9_open yX9_open ∈ xT := List.mem_filter.mpr ⟨List.mem_append_right _ (List.mem_of_getElem? (i := 731) rfl), by rfl⟩
set_option maxRecDepth 100000 in
theorem co_X9_open : Cond.code yX9_open cX9_open 2 none ∈ xT := List.mem_filter.mpr ⟨List.mem_append_right _ (List.mem_of_getElem? (i := 732) rfl), by rfl⟩
set_option maxRecDepth 100000 in
theorem im_X9_moveOn : Cond.instanceMethod yX9_moveOn ∈ xT := List.mem_filter.mpr ⟨List.mem_append_right _ (List.mem_of_getElem? (i := 735) rfl), by rfl⟩
set_option maxRecDepth 100000 in
theorem se_X9_moveOn : Cond.selects yX9_moveOn.cls yX9_moveOn yX9_moveOn ∈ xT := List.mem_filter.mpr ⟨List.mem_append_right _ (List.mem_of_getElem? (i := 736) rfl), by rfl⟩
set_option maxRecDepth 100000 in
theorem co_X9_moveOn : Cond.code yX9_moveOn cX9_moveOn 1 none ∈ xT := List.mem_filter.mpr ⟨List.mem_append_right _ (List.mem_of_getElem? (i := 737) rfl), by rfl⟩
set_option maxRecDepth 100000 in
theorem kc_X9_43 : Cond.constant RX9 43 (Int32.ofInt (100000)) ∈ xT := List.mem_filter.mpr ⟨List.mem_append_right _ (List.mem_of_getElem? (i := 738) rfl), by rfl⟩
set_option maxRecDepth 100000 in
theorem im_X9_isWord : Cond.instanceMethod yX9_isWord ∈ xT := List.mem_filter.mpr ⟨List.mem_append_right _ (List.mem_of_getElem? (i := 741) rfl), by rfl⟩
set_option maxRecDepth 100000 in
theorem se_X9_isWord : Cond.selects yX9_isWord.cls yX9_isWord yX9_isWord ∈ xT := List.mem_filter.mpr ⟨List.mem_append_right _ (List.mem_of_getElem? (i := 742) rfl), by rfl⟩
set_option maxRecDepth 100000 in
theorem co_X9_isWord : Cond.code yX9_isWord cX9_isWord 3 (some .boolean) ∈ xT := List.mem_filter.mpr ⟨List.mem_append_right _ (List.mem_of_getElem? (i := 743) rfl), by rfl⟩
set_option maxRecDepth 100000 in
theorem im_J0_length_8abf5 : Cond.instanceMethod yJ0_length_8abf5 ∈ xT := List.mem_filter.mpr ⟨List.mem_append_right _ (List.mem_of_getElem? (i := 745) rfl), by rfl⟩
set_option maxRecDepth 100000 in
theorem se_J0_length_8abf5 : Cond.selects yJ0_length_8abf5.cls yJ0_length_8abf5 yJ0_length_8abf5 ∈ xT := List.mem_filter.mpr ⟨List.mem_append_right _ (List.mem_of_getElem? (i := 746) rfl), by rfl⟩
set_option maxRecDepth 100000 in
theorem co_J0_length_8abf5 : Cond.code yJ0_length_8abf5 cJ0_length_8abf5 1 (some .int) ∈ xT := List.mem_filter.mpr ⟨List.mem_append_right _ (List.mem_of_getElem? (i := 747) rfl), by rfl⟩
set_option maxRecDepth 100000 in
theorem im_J0_coder_7d493 : Cond.instanceMethod yJ0_coder_7d493 ∈ xT := List.mem_filter.mpr ⟨List.mem_append_right _ (List.mem_of_getElem? (i := 749) rfl), by rfl⟩
set_option maxRecDepth 100000 in
theorem se_J0_coder_7d493 : Cond.selects yJ0_coder_7d493.cls yJ0_coder_7d493 yJ0_coder_7d493 ∈ xT := List.mem_filter.mpr ⟨List.mem_append_right _ (List.mem_of_getElem? (i := 750) rfl), by rfl⟩
set_option maxRecDepth 100000 in
theorem co_J0_coder_7d493 : Cond.code yJ0_coder_7d493 cJ0_coder_7d493 1 (some .byte) ∈ xT := List.mem_filter.mpr ⟨List.mem_append_right _ (List.mem_of_getElem? (i := 751) rfl), by rfl⟩
set_option maxRecDepth 100000 in
theorem im_J0_charAt_5068e : Cond.instanceMethod yJ0_charAt_5068e ∈ xT := List.mem_filter.mpr ⟨List.mem_append_right _ (List.mem_of_getElem? (i := 755) rfl), by rfl⟩
set_option maxRecDepth 100000 in
theorem se_J0_charAt_5068e : Cond.selects yJ0_charAt_5068e.cls yJ0_charAt_5068e yJ0_charAt_5068e ∈ xT := List.mem_filter.mpr ⟨List.mem_append_right _ (List.mem_of_getElem? (i := 756) rfl), by rfl⟩
set_option maxRecDepth 100000 in
theorem co_J0_charAt_5068e : Cond.code yJ0_charAt_5068e cJ0_charAt_5068e 2 (some .char) ∈ xT := List.mem_filter.mpr ⟨List.mem_append_right _ (List.mem_of_getElem? (i := 757) rfl), by rfl⟩
set_option maxRecDepth 100000 in
theorem im_J0_isLatin1_aae02 : Cond.instanceMethod yJ0_isLatin1_aae02 ∈ xT := List.mem_filter.mpr ⟨List.mem_append_right _ (List.mem_of_getElem? (i := 759) rfl), by rfl⟩
set_option maxRecDepth 100000 in
theorem se_J0_isLatin1_aae02 : Cond.selects yJ0_isLatin1_aae02.cls yJ0_isLatin1_aae02 yJ0_isLatin1_aae02 ∈ xT := List.mem_filter.mpr ⟨List.mem_append_right _ (List.mem_of_getElem? (i := 760) rfl), by rfl⟩
set_option maxRecDepth 100000 in
theorem co_J0_isLatin1_aae02 : Cond.code yJ0_isLatin1_aae02 cJ0_isLatin1_aae02 1 (some .boolean) ∈ xT := List.mem_filter.mpr ⟨List.mem_append_right _ (List.mem_of_getElem? (i := 761) rfl), by rfl⟩
set_option maxRecDepth 100000 in
theorem sm_J1_charAt_3b067 : Cond.static yJ1_charAt_3b067 ∈ xT := List.mem_filter.mpr ⟨List.mem_append_right _ (List.mem_of_getElem? (i := 763) rfl), by rfl⟩
set_option maxRecDepth 100000 in
theorem co_J1_charAt_3b067 : Cond.code yJ1_charAt_3b067 cJ1_charAt_3b067 2 (some .char) ∈ xT := List.mem_filter.mpr ⟨List.mem_append_right _ (List.mem_of_getElem? (i := 764) rfl), by rfl⟩
set_option maxRecDepth 100000 in
theorem sm_J0_checkIndex_df160 : Cond.static yJ0_checkIndex_df160 ∈ xT := List.mem_filter.mpr ⟨List.mem_append_right _ (List.mem_of_getElem? (i := 766) rfl), by rfl⟩
set_option maxRecDepth 100000 in
theorem co_J0_checkIndex_df160 : Cond.code yJ0_checkIndex_df160 cJ0_checkIndex_df160 2 none ∈ xT := List.mem_filter.mpr ⟨List.mem_append_right _ (List.mem_of_getElem? (i := 767) rfl), by rfl⟩
set_option maxRecDepth 100000 in
theorem sm_J3_checkIndex_8e157 : Cond.static yJ3_checkIndex_8e157 ∈ xT := List.mem_filter.mpr ⟨List.mem_append_right _ (List.mem_of_getElem? (i := 771) rfl), by rfl⟩
set_option maxRecDepth 100000 in
theorem co_J3_checkIndex_8e157 : Cond.code yJ3_checkIndex_8e157 cJ3_checkIndex_8e157 3 (some .int) ∈ xT := List.mem_filter.mpr ⟨List.mem_append_right _ (List.mem_of_getElem? (i := 772) rfl), by rfl⟩
set_option maxRecDepth 100000 in
theorem sm_J2_charAt_3b067 : Cond.static yJ2_charAt_3b067 ∈ xT := List.mem_filter.mpr ⟨List.mem_append_right _ (List.mem_of_getElem? (i := 774) rfl), by rfl⟩
set_option maxRecDepth 100000 in
theorem co_J2_charAt_3b067 : Cond.code yJ2_charAt_3b067 cJ2_charAt_3b067 2 (some .char) ∈ xT := List.mem_filter.mpr ⟨List.mem_append_right _ (List.mem_of_getElem? (i := 775) rfl), by rfl⟩
set_option maxRecDepth 100000 in
theorem sm_J2_checkIndex_2214a : Cond.static yJ2_checkIndex_2214a ∈ xT := List.mem_filter.mpr ⟨List.mem_append_right _ (List.mem_of_getElem? (i := 777) rfl), by rfl⟩
set_option maxRecDepth 100000 in
theorem co_J2_checkIndex_2214a : Cond.code yJ2_checkIndex_2214a cJ2_checkIndex_2214a 2 none ∈ xT := List.mem_filter.mpr ⟨List.mem_append_right _ (List.mem_of_getElem? (i := 778) rfl), by rfl⟩
set_option maxRecDepth 100000 in
theorem sm_J2_length_9d52b : Cond.static yJ2_length_9d52b ∈ xT := List.mem_filter.mpr ⟨List.mem_append_right _ (List.mem_of_getElem? (i := 780) rfl), by rfl⟩
set_option maxRecDepth 100000 in
theorem co_J2_length_9d52b : Cond.code yJ2_length_9d52b cJ2_length_9d52b 1 (some .int) ∈ xT := List.mem_filter.mpr ⟨List.mem_append_right _ (List.mem_of_getElem? (i := 781) rfl), by rfl⟩
set_option maxRecDepth 100000 in
theorem sm_J2_getChar_3b067 : Cond.static yJ2_getChar_3b067 ∈ xT := List.mem_filter.mpr ⟨List.mem_append_right _ (List.mem_of_getElem? (i := 784) rfl), by rfl⟩
set_option maxRecDepth 100000 in
theorem co_J2_getChar_3b067 : Cond.code yJ2_getChar_3b067 cJ2_getChar_3b067 2 (some .char) ∈ xT := List.mem_filter.mpr ⟨List.mem_append_right _ (List.mem_of_getElem? (i := 785) rfl), by rfl⟩
set_option maxRecDepth 100000 in
theorem im_X8_takeSign : Cond.instanceMethod yX8_takeSign ∈ xT := List.mem_filter.mpr ⟨List.mem_append_right _ (List.mem_of_getElem? (i := 795) rfl), by rfl⟩
set_option maxRecDepth 100000 in
theorem co_X8_takeSign : Cond.code yX8_takeSign cX8_takeSign 2 none ∈ xT := List.mem_filter.mpr ⟨List.mem_append_right _ (List.mem_of_getElem? (i := 796) rfl), by rfl⟩
set_option maxRecDepth 100000 in
theorem im_X8_fail : Cond.instanceMethod yX8_fail ∈ xT := List.mem_filter.mpr ⟨List.mem_append_right _ (List.mem_of_getElem? (i := 799) rfl), by rfl⟩
set_option maxRecDepth 100000 in
theorem co_X8_fail : Cond.code yX8_fail cX8_fail 2 none ∈ xT := List.mem_filter.mpr ⟨List.mem_append_right _ (List.mem_of_getElem? (i := 800) rfl), by rfl⟩
set_option maxRecDepth 100000 in
theorem im_X8_readStatement : Cond.instanceMethod yX8_readStatement ∈ xT := List.mem_filter.mpr ⟨List.mem_append_right _ (List.mem_of_getElem? (i := 803) rfl), by rfl⟩
set_option maxRecDepth 100000 in
theorem co_X8_readStatement : Cond.code yX8_readStatement cX8_readStatement 1 none ∈ xT := List.mem_filter.mpr ⟨List.mem_append_right _ (List.mem_of_getElem? (i := 804) rfl), by rfl⟩
set_option maxRecDepth 100000 in
theorem im_X8_readGate : Cond.instanceMethod yX8_readGate ∈ xT := List.mem_filter.mpr ⟨List.mem_append_right _ (List.mem_of_getElem? (i := 808) rfl), by rfl⟩
set_option maxRecDepth 100000 in
theorem co_X8_readGate : Cond.code yX8_readGate cX8_readGate 4 none ∈ xT := List.mem_filter.mpr ⟨List.mem_append_right _ (List.mem_of_getElem? (i := 809) rfl), by rfl⟩
set_option maxRecDepth 100000 in
theorem im_X8_takeCounted : Cond.instanceMethod yX8_takeCounted ∈ xT := List.mem_filter.mpr ⟨List.mem_append_right _ (List.mem_of_getElem? (i := 812) rfl), by rfl⟩
set_option maxRecDepth 100000 in
theorem co_X8_takeCounted : Cond.code yX8_takeCounted cX8_takeCounted 3 none ∈ xT := List.mem_filter.mpr ⟨List.mem_append_right _ (List.mem_of_getElem? (i := 813) rfl), by rfl⟩
set_option maxRecDepth 100000 in
theorem im_X8_takeNumber : Cond.instanceMethod yX8_takeNumber ∈ xT := List.mem_filter.mpr ⟨List.mem_append_right _ (List.mem_of_getElem? (i := 816) rfl), by rfl⟩
set_option maxRecDepth 100000 in
theorem co_X8_takeNumber : Cond.code yX8_takeNumber cX8_takeNumber 4 (some .int) ∈ xT := List.mem_filter.mpr ⟨List.mem_append_right _ (List.mem_of_getElem? (i := 817) rfl), by rfl⟩
set_option maxRecDepth 100000 in
theorem im_X8_numberStands : Cond.instanceMethod yX8_numberStands ∈ xT := List.mem_filter.mpr ⟨List.mem_append_right _ (List.mem_of_getElem? (i := 820) rfl), by rfl⟩
set_option maxRecDepth 100000 in
theorem co_X8_numberStands : Cond.code yX8_numberStands cX8_numberStands 3 (some .boolean) ∈ xT := List.mem_filter.mpr ⟨List.mem_append_right _ (List.mem_of_getElem? (i := 821) rfl), by rfl⟩
set_option maxRecDepth 100000 in
theorem im_X2_add : Cond.instanceMethod yX2_add ∈ xT := List.mem_filter.mpr ⟨List.mem_append_right _ (List.mem_of_getElem? (i := 823) rfl), by rfl⟩
set_option maxRecDepth 100000 in
theorem se_X2_add : Cond.selects yX2_add.cls yX2_add yX2_add ∈ xT := List.mem_filter.mpr ⟨List.mem_append_right _ (List.mem_of_getElem? (i := 824) rfl), by rfl⟩
set_option maxRecDepth 100000 in
theorem co_X2_add : Cond.code yX2_add cX2_add 4 none ∈ xT := List.mem_filter.mpr ⟨List.mem_append_right _ (List.mem_of_getElem? (i := 825) rfl), by rfl⟩
set_option maxRecDepth 100000 in
theorem im_X8_readFlow : Cond.instanceMethod yX8_readFlow ∈ xT := List.mem_filter.mpr ⟨List.mem_append_right _ (List.mem_of_getElem? (i := 829) rfl), by rfl⟩
set_option maxRecDepth 100000 in
theorem co_X8_readFlow : Cond.code yX8_readFlow cX8_readFlow 2 none ∈ xT := List.mem_filter.mpr ⟨List.mem_append_right _ (List.mem_of_getElem? (i := 830) rfl), by rfl⟩
set_option maxRecDepth 100000 in
theorem im_X1_open : Cond.instanceMethod yX1_open ∈ xT := List.mem_filter.mpr ⟨List.mem_append_right _ (List.mem_of_getElem? (i := 832) rfl), by rfl⟩
set_option maxRecDepth 100000 in
theorem se_X1_open : Cond.selects yX1_open.cls yX1_open yX1_open ∈ xT := List.mem_filter.mpr ⟨List.mem_append_right _ (List.mem_of_getElem? (i := 833) rfl), by rfl⟩
set_option maxRecDepth 100000 in
theorem co_X1_open : Cond.code yX1_open cX1_open 1 none ∈ xT := List.mem_filter.mpr ⟨List.mem_append_right _ (List.mem_of_getElem? (i := 834) rfl), by rfl⟩
set_option maxRecDepth 100000 in
theorem im_X8_readPlace : Cond.instanceMethod yX8_readPlace ∈ xT := List.mem_filter.mpr ⟨List.mem_append_right _ (List.mem_of_getElem? (i := 837) rfl), by rfl⟩
set_option maxRecDepth 100000 in
theorem co_X8_readPlace : Cond.code yX8_readPlace cX8_readPlace 2 none ∈ xT := List.mem_filter.mpr ⟨List.mem_append_right _ (List.mem_of_getElem? (i := 838) rfl), by rfl⟩
set_option maxRecDepth 100000 in
theorem im_X1_openRouteHas : Cond.instanceMethod yX1_openRouteHas ∈ xT := List.mem_filter.mpr ⟨List.mem_append_right _ (List.mem_of_getElem? (i := 840) rfl), by rfl⟩
set_option maxRecDepth 100000 in
theorem se_X1_openRouteHas : Cond.selects yX1_openRouteHas.cls yX1_openRouteHas yX1_openRouteHas ∈ xT := List.mem_filter.mpr ⟨List.mem_append_right _ (List.mem_of_getElem? (i := 841) rfl), by rfl⟩
set_option maxRecDepth 100000 in
theorem co_X1_openRouteHas : Cond.code yX1_openRouteHas cX1_openRouteHas 3 (some .boolean) ∈ xT := List.mem_filter.mpr ⟨List.mem_append_right _ (List.mem_of_getElem? (i := 842) rfl), by rfl⟩
set_option maxRecDepth 100000 in
theorem im_X1_gateAt : Cond.instanceMethod yX1_gateAt ∈ xT := List.mem_filter.mpr ⟨List.mem_append_right _ (List.mem_of_getElem? (i := 844) rfl), by rfl⟩
set_option maxRecDepth 100000 in
theorem se_X1_gateAt : Cond.selects yX1_gateAt.cls yX1_gateAt yX1_gateAt ∈ xT := List.mem_filter.mpr ⟨List.mem_append_right _ (List.mem_of_getElem? (i := 845) rfl), by rfl⟩
set_option maxRecDepth 100000 in
theorem co_X1_gateAt : Cond.code yX1_gateAt cX1_gateAt 3 (some .int) ∈ xT := List.mem_filter.mpr ⟨List.mem_append_right _ (List.mem_of_getElem? (i := 846) rfl), by rfl⟩
set_option maxRecDepth 100000 in
theorem im_X1_addPlace : Cond.instanceMethod yX1_addPlace ∈ xT := List.mem_filter.mpr ⟨List.mem_append_right _ (List.mem_of_getElem? (i := 848) rfl), by rfl⟩
set_option maxRecDepth 100000 in
theorem se_X1_addPlace : Cond.selects yX1_addPlace.cls yX1_addPlace yX1_addPlace ∈ xT := List.mem_filter.mpr ⟨List.mem_append_right _ (List.mem_of_getElem? (i := 849) rfl), by rfl⟩
set_option maxRecDepth 100000 in
theorem co_X1_addPlace : Cond.code yX1_addPlace cX1_addPlace 2 none ∈ xT := List.mem_filter.mpr ⟨List.mem_append_right _ (List.mem_of_getElem? (i := 850) rfl), by rfl⟩
set_option maxRecDepth 100000 in
theorem im_X1_close : Cond.instanceMethod yX1_close ∈ xT := List.mem_filter.mpr ⟨List.mem_append_right _ (List.mem_of_getElem? (i := 853) rfl), by rfl⟩
set_option maxRecDepth 100000 in
theorem se_X1_close : Cond.selects yX1_close.cls yX1_close yX1_close ∈ xT := List.mem_filter.mpr ⟨List.mem_append_right _ (List.mem_of_getElem? (i := 854) rfl), by rfl⟩
set_option maxRecDepth 100000 in
theorem co_X1_close : Cond.code yX1_close cX1_close 2 none ∈ xT := List.mem_filter.mpr ⟨List.mem_append_right _ (List.mem_of_getElem? (i := 855) rfl), by rfl⟩
set_option maxRecDepth 100000 in
theorem im_X8_readPacket : Cond.instanceMethod yX8_readPacket ∈ xT := List.mem_filter.mpr ⟨List.mem_append_right _ (List.mem_of_getElem? (i := 859) rfl), by rfl⟩
set_option maxRecDepth 100000 in
theorem co_X8_readPacket : Cond.code yX8_readPacket cX8_readPacket 4 none ∈ xT := List.mem_filter.mpr ⟨List.mem_append_right _ (List.mem_of_getElem? (i := 860) rfl), by rfl⟩
set_option maxRecDepth 100000 in
theorem im_X5_add : Cond.instanceMethod yX5_add ∈ xT := List.mem_filter.mpr ⟨List.mem_append_right _ (List.mem_of_getElem? (i := 862) rfl), by rfl⟩
set_option maxRecDepth 100000 in
theorem se_X5_add : Cond.selects yX5_add.cls yX5_add yX5_add ∈ xT := List.mem_filter.mpr ⟨List.mem_append_right _ (List.mem_of_getElem? (i := 863) rfl), by rfl⟩
set_option maxRecDepth 100000 in
theorem co_X5_add : Cond.code yX5_add cX5_add 4 none ∈ xT := List.mem_filter.mpr ⟨List.mem_append_right _ (List.mem_of_getElem? (i := 864) rfl), by rfl⟩
set_option maxRecDepth 100000 in
theorem im_X8_readCoupon : Cond.instanceMethod yX8_readCoupon ∈ xT := List.mem_filter.mpr ⟨List.mem_append_right _ (List.mem_of_getElem? (i := 868) rfl), by rfl⟩
set_option maxRecDepth 100000 in
theorem co_X8_readCoupon : Cond.code yX8_readCoupon cX8_readCoupon 4 none ∈ xT := List.mem_filter.mpr ⟨List.mem_append_right _ (List.mem_of_getElem? (i := 869) rfl), by rfl⟩
set_option maxRecDepth 100000 in
theorem im_X0_add : Cond.instanceMethod yX0_add ∈ xT := List.mem_filter.mpr ⟨List.mem_append_right _ (List.mem_of_getElem? (i := 871) rfl), by rfl⟩
set_option maxRecDepth 100000 in
theorem se_X0_add : Cond.selects yX0_add.cls yX0_add yX0_add ∈ xT := List.mem_filter.mpr ⟨List.mem_append_right _ (List.mem_of_getElem? (i := 872) rfl), by rfl⟩
set_option maxRecDepth 100000 in
theorem co_X0_add : Cond.code yX0_add cX0_add 4 none ∈ xT := List.mem_filter.mpr ⟨List.mem_append_right _ (List.mem_of_getElem? (i := 873) rfl), by rfl⟩
set_option maxRecDepth 100000 in
theorem im_X8_readSum : Cond.instanceMethod yX8_readSum ∈ xT := List.mem_filter.mpr ⟨List.mem_append_right _ (List.mem_of_getElem? (i := 879) rfl), by rfl⟩
set_option maxRecDepth 100000 in
theorem co_X8_readSum : Cond.code yX8_readSum cX8_readSum 4 none ∈ xT := List.mem_filter.mpr ⟨List.mem_append_right _ (List.mem_of_getElem? (i := 880) rfl), by rfl⟩
set_option maxRecDepth 100000 in
theorem im_X8_readTerm : Cond.instanceMethod yX8_readTerm ∈ xT := List.mem_filter.mpr ⟨List.mem_append_right _ (List.mem_of_getElem? (i := 883) rfl), by rfl⟩
set_option maxRecDepth 100000 in
theorem co_X8_readTerm : Cond.code yX8_readTerm cX8_readTerm 4 none ∈ xT := List.mem_filter.mpr ⟨List.mem_append_right _ (List.mem_of_getElem? (i := 884) rfl), by rfl⟩
set_option maxRecDepth 100000 in
theorem im_X8_readFactor : Cond.instanceMethod yX8_readFactor ∈ xT := List.mem_filter.mpr ⟨List.mem_append_right _ (List.mem_of_getElem? (i := 887) rfl), by rfl⟩
set_option maxRecDepth 100000 in
theorem co_X8_readFactor : Cond.code yX8_readFactor cX8_readFactor 3 none ∈ xT := List.mem_filter.mpr ⟨List.mem_append_right _ (List.mem_of_getElem? (i := 888) rfl), by rfl⟩
set_option maxRecDepth 100000 in
theorem im_X8_emit : Cond.instanceMethod yX8_emit ∈ xT := List.mem_filter.mpr ⟨List.mem_append_right _ (List.mem_of_getElem? (i := 894) rfl), by rfl⟩
set_option maxRecDepth 100000 in
theorem co_X8_emit : Cond.code yX8_emit cX8_emit 2 none ∈ xT := List.mem_filter.mpr ⟨List.mem_append_right _ (List.mem_of_getElem? (i := 895) rfl), by rfl⟩
set_option maxRecDepth 100000 in
theorem im_X8_isEither : Cond.instanceMethod yX8_isEither ∈ xT := List.mem_filter.mpr ⟨List.mem_append_right _ (List.mem_of_getElem? (i := 898) rfl), by rfl⟩
set_option maxRecDepth 100000 in
theorem co_X8_isEither : Cond.code yX8_isEither cX8_isEither 3 (some .boolean) ∈ xT := List.mem_filter.mpr ⟨List.mem_append_right _ (List.mem_of_getElem? (i := 899) rfl), by rfl⟩
set_option maxRecDepth 100000 in
theorem im_X10_clearLines : Cond.instanceMethod yX10_clearLines ∈ xT := List.mem_filter.mpr ⟨List.mem_append_right _ (List.mem_of_getElem? (i := 901) rfl), by rfl⟩
set_option maxRecDepth 100000 in
theorem se_X10_clearLines : Cond.selects yX10_clearLines.cls yX10_clearLines yX10_clearLines ∈ xT := List.mem_filter.mpr ⟨List.mem_append_right _ (List.mem_of_getElem? (i := 902) rfl), by rfl⟩
set_option maxRecDepth 100000 in
theorem co_X10_clearLines : Cond.code yX10_clearLines cX10_clearLines 3 none ∈ xT := List.mem_filter.mpr ⟨List.mem_append_right _ (List.mem_of_getElem? (i := 903) rfl), by rfl⟩
set_option maxRecDepth 100000 in
theorem im_X4_clear : Cond.instanceMethod yX4_clear ∈ xT := List.mem_filter.mpr ⟨List.mem_append_right _ (List.mem_of_getElem? (i := 905) rfl), by rfl⟩
set_option maxRecDepth 100000 in
theorem se_X4_clear : Cond.selects yX4_clear.cls yX4_clear yX4_clear ∈ xT := List.mem_filter.mpr ⟨List.mem_append_right _ (List.mem_of_getElem? (i := 906) rfl), by rfl⟩
set_option maxRecDepth 100000 in
theorem co_X4_clear : Cond.code yX4_clear cX4_clear 3 none ∈ xT := List.mem_filter.mpr ⟨List.mem_append_right _ (List.mem_of_getElem? (i := 907) rfl), by rfl⟩
set_option maxRecDepth 100000 in
theorem kl_X8_80 : Cond.classLink RX8 80 RX7 ∈ xT := List.mem_filter.mpr ⟨List.mem_append_right _ (List.mem_of_getElem? (i := 908) rfl), by rfl⟩
set_option maxRecDepth 100000 in
theorem sm_J7_copyOf_59c91 : Cond.static yJ7_copyOf_59c91 ∈ xT := List.mem_filter.mpr ⟨List.mem_append_right _ (List.mem_of_getElem? (i := 910) rfl), by rfl⟩
set_option maxRecDepth 100000 in
theorem co_J7_copyOf_59c91 : Cond.code yJ7_copyOf_59c91 cJ7_copyOf_59c91 3 (some (.array .int)) ∈ xT := List.mem_filter.mpr ⟨List.mem_append_right _ (List.mem_of_getElem? (i := 911) rfl), by rfl⟩
set_option maxRecDepth 100000 in
theorem kl_J7_317 : Cond.classLink RJ7 317 "[I" ∈ xT := List.mem_filter.mpr ⟨List.mem_append_right _ (List.mem_of_getElem? (i := 913) rfl), by rfl⟩
set_option maxRecDepth 100000 in
theorem im_X3_keep : Cond.instanceMethod yX3_keep ∈ xT := List.mem_filter.mpr ⟨List.mem_append_right _ (List.mem_of_getElem? (i := 918) rfl), by rfl⟩
set_option maxRecDepth 100000 in
theorem se_X3_keep : Cond.selects yX3_keep.cls yX3_keep yX3_keep ∈ xT := List.mem_filter.mpr ⟨List.mem_append_right _ (List.mem_of_getElem? (i := 919) rfl), by rfl⟩
set_option maxRecDepth 100000 in
theorem co_X3_keep : Cond.code yX3_keep cX3_keep 3 none ∈ xT := List.mem_filter.mpr ⟨List.mem_append_right _ (List.mem_of_getElem? (i := 920) rfl), by rfl⟩
set_option maxRecDepth 100000 in
theorem kc_L_42 : Cond.constant RL 42 (Int32.ofInt (-2000000098)) ∈ xT := List.mem_filter.mpr ⟨List.mem_append_right _ (List.mem_of_getElem? (i := 923) rfl), by rfl⟩
set_option maxRecDepth 100000 in
theorem sm_L_route : Cond.static yL_route ∈ xT := List.mem_filter.mpr ⟨List.mem_append_right _ (List.mem_of_getElem? (i := 925) rfl), by rfl⟩
set_option maxRecDepth 100000 in
theorem kl_L_50 : Cond.classLink RL 50 "java/lang/IndexOutOfBoundsException" ∈ xT := List.mem_filter.mpr ⟨List.mem_append_right _ (List.mem_of_getElem? (i := 927) rfl), by rfl⟩
set_option maxRecDepth 100000 in
theorem kl_L_59 : Cond.classLink RL 59 "java/util/NoSuchElementException" ∈ xT := List.mem_filter.mpr ⟨List.mem_append_right _ (List.mem_of_getElem? (i := 928) rfl), by rfl⟩
set_option maxRecDepth 100000 in
theorem im_X11_route : Cond.instanceMethod yX11_route ∈ xT := List.mem_filter.mpr ⟨List.mem_append_right _ (List.mem_of_getElem? (i := 930) rfl), by rfl⟩
set_option maxRecDepth 100000 in
theorem se_X11_route : Cond.selects yX11_route.cls yX11_route yX11_route ∈ xT := List.mem_filter.mpr ⟨List.mem_append_right _ (List.mem_of_getElem? (i := 931) rfl), by rfl⟩
set_option maxRecDepth 100000 in
theorem co_X11_route : Cond.code yX11_route cX11_route 4 (some .int) ∈ xT := List.mem_filter.mpr ⟨List.mem_append_right _ (List.mem_of_getElem? (i := 932) rfl), by rfl⟩
set_option maxRecDepth 100000 in
theorem im_X11_checkFlow : Cond.instanceMethod yX11_checkFlow ∈ xT := List.mem_filter.mpr ⟨List.mem_append_right _ (List.mem_of_getElem? (i := 935) rfl), by rfl⟩
set_option maxRecDepth 100000 in
theorem co_X11_checkFlow : Cond.code yX11_checkFlow cX11_checkFlow 2 none ∈ xT := List.mem_filter.mpr ⟨List.mem_append_right _ (List.mem_of_getElem? (i := 936) rfl), by rfl⟩
set_option maxRecDepth 100000 in
theorem kl_X11_277 : Cond.classLink RX11 277 "java/lang/IndexOutOfBoundsException" ∈ xT := List.mem_filter.mpr ⟨List.mem_append_right _ (List.mem_of_getElem? (i := 937) rfl), by rfl⟩
set_option maxRecDepth 100000 in
theorem kl_X11_160 : Cond.classLink RX11 160 "java/util/NoSuchElementException" ∈ xT := List.mem_filter.mpr ⟨List.mem_append_right _ (List.mem_of_getElem? (i := 954) rfl), by rfl⟩
set_option maxRecDepth 100000 in
theorem kc_L_52 : Cond.constant RL 52 (Int32.ofInt (-2000000097)) ∈ xT := List.mem_filter.mpr ⟨List.mem_append_right _ (List.mem_of_getElem? (i := 970) rfl), by rfl⟩
set_option maxRecDepth 100000 in
theorem kc_L_61 : Cond.constant RL 61 (Int32.ofInt (-2000000100)) ∈ xT := List.mem_filter.mpr ⟨List.mem_append_right _ (List.mem_of_getElem? (i := 971) rfl), by rfl⟩
set_option maxRecDepth 100000 in
theorem sm_L_curve : Cond.static yL_curve ∈ xT := List.mem_filter.mpr ⟨List.mem_append_right _ (List.mem_of_getElem? (i := 973) rfl), by rfl⟩
set_option maxRecDepth 100000 in
theorem im_X11_curve : Cond.instanceMethod yX11_curve ∈ xT := List.mem_filter.mpr ⟨List.mem_append_right _ (List.mem_of_getElem? (i := 976) rfl), by rfl⟩
set_option maxRecDepth 100000 in
theorem se_X11_curve : Cond.selects yX11_curve.cls yX11_curve yX11_curve ∈ xT := List.mem_filter.mpr ⟨List.mem_append_right _ (List.mem_of_getElem? (i := 977) rfl), by rfl⟩
set_option maxRecDepth 100000 in
theorem co_X11_curve : Cond.code yX11_curve cX11_curve 3 (some .int) ∈ xT := List.mem_filter.mpr ⟨List.mem_append_right _ (List.mem_of_getElem? (i := 978) rfl), by rfl⟩
set_option maxRecDepth 100000 in
theorem im_X11_checkGate : Cond.instanceMethod yX11_checkGate ∈ xT := List.mem_filter.mpr ⟨List.mem_append_right _ (List.mem_of_getElem? (i := 981) rfl), by rfl⟩
set_option maxRecDepth 100000 in
theorem co_X11_checkGate : Cond.code yX11_checkGate cX11_checkGate 2 none ∈ xT := List.mem_filter.mpr ⟨List.mem_append_right _ (List.mem_of_getElem? (i := 982) rfl), by rfl⟩
set_option maxRecDepth 100000 in
theorem im_X11_checkRange : Cond.instanceMethod yX11_checkRange ∈ xT := List.mem_filter.mpr ⟨List.mem_append_right _ (List.mem_of_getElem? (i := 986) rfl), by rfl⟩
set_option maxRecDepth 100000 in
theorem co_X11_checkRange : Cond.code yX11_checkRange cX11_checkRange 4 none ∈ xT := List.mem_filter.mpr ⟨List.mem_append_right _ (List.mem_of_getElem? (i := 987) rfl), by rfl⟩
set_option maxRecDepth 100000 in
theorem sm_L_endsAt : Cond.static yL_endsAt ∈ xT := List.mem_filter.mpr ⟨List.mem_append_right _ (List.mem_of_getElem? (i := 990) rfl), by rfl⟩
set_option maxRecDepth 100000 in
theorem im_X11_endsAt : Cond.instanceMethod yX11_endsAt ∈ xT := List.mem_filter.mpr ⟨List.mem_append_right _ (List.mem_of_getElem? (i := 993) rfl), by rfl⟩
set_option maxRecDepth 100000 in
theorem se_X11_endsAt : Cond.selects yX11_endsAt.cls yX11_endsAt yX11_endsAt ∈ xT := List.mem_filter.mpr ⟨List.mem_append_right _ (List.mem_of_getElem? (i := 994) rfl), by rfl⟩
set_option maxRecDepth 100000 in
theorem co_X11_endsAt : Cond.code yX11_endsAt cX11_endsAt 2 (some .int) ∈ xT := List.mem_filter.mpr ⟨List.mem_append_right _ (List.mem_of_getElem? (i := 995) rfl), by rfl⟩
set_option maxRecDepth 100000 in
theorem im_X11_checkPacket : Cond.instanceMethod yX11_checkPacket ∈ xT := List.mem_filter.mpr ⟨List.mem_append_right _ (List.mem_of_getElem? (i := 998) rfl), by rfl⟩
set_option maxRecDepth 100000 in
theorem co_X11_checkPacket : Cond.code yX11_checkPacket cX11_checkPacket 2 none ∈ xT := List.mem_filter.mpr ⟨List.mem_append_right _ (List.mem_of_getElem? (i := 999) rfl), by rfl⟩
set_option maxRecDepth 100000 in
theorem im_X5_hasEnded : Cond.instanceMethod yX5_hasEnded ∈ xT := List.mem_filter.mpr ⟨List.mem_append_right _ (List.mem_of_getElem? (i := 1002) rfl), by rfl⟩
set_option maxRecDepth 100000 in
theorem se_X5_hasEnded : Cond.selects yX5_hasEnded.cls yX5_hasEnded yX5_hasEnded ∈ xT := List.mem_filter.mpr ⟨List.mem_append_right _ (List.mem_of_getElem? (i := 1003) rfl), by rfl⟩
set_option maxRecDepth 100000 in
theorem co_X5_hasEnded : Cond.code yX5_hasEnded cX5_hasEnded 2 (some .boolean) ∈ xT := List.mem_filter.mpr ⟨List.mem_append_right _ (List.mem_of_getElem? (i := 1004) rfl), by rfl⟩
set_option maxRecDepth 100000 in
theorem im_X10_advance : Cond.instanceMethod yX10_advance ∈ xT := List.mem_filter.mpr ⟨List.mem_append_right _ (List.mem_of_getElem? (i := 1006) rfl), by rfl⟩
set_option maxRecDepth 100000 in
theorem se_X10_advance : Cond.selects yX10_advance.cls yX10_advance yX10_advance ∈ xT := List.mem_filter.mpr ⟨List.mem_append_right _ (List.mem_of_getElem? (i := 1007) rfl), by rfl⟩
set_option maxRecDepth 100000 in
theorem co_X10_advance : Cond.code yX10_advance cX10_advance 5 none ∈ xT := List.mem_filter.mpr ⟨List.mem_append_right _ (List.mem_of_getElem? (i := 1008) rfl), by rfl⟩
set_option maxRecDepth 100000 in
theorem im_X10_quietTicks : Cond.instanceMethod yX10_quietTicks ∈ xT := List.mem_filter.mpr ⟨List.mem_append_right _ (List.mem_of_getElem? (i := 1012) rfl), by rfl⟩
set_option maxRecDepth 100000 in
theorem co_X10_quietTicks : Cond.code yX10_quietTicks cX10_quietTicks 5 (some .int) ∈ xT := List.mem_filter.mpr ⟨List.mem_append_right _ (List.mem_of_getElem? (i := 1013) rfl), by rfl⟩
set_option maxRecDepth 100000 in
theorem im_X10_ticksBeforePassage : Cond.instanceMethod yX10_ticksBeforePassage ∈ xT := List.mem_filter.mpr ⟨List.mem_append_right _ (List.mem_of_getElem? (i := 1017) rfl), by rfl⟩
set_option maxRecDepth 100000 in
theorem co_X10_ticksBeforePassage : Cond.code yX10_ticksBeforePassage cX10_ticksBeforePassage 10 (some .int) ∈ xT := List.mem_filter.mpr ⟨List.mem_append_right _ (List.mem_of_getElem? (i := 1018) rfl), by rfl⟩
set_option maxRecDepth 100000 in
theorem im_X4_firstIn : Cond.instanceMethod yX4_firstIn ∈ xT := List.mem_filter.mpr ⟨List.mem_append_right _ (List.mem_of_getElem? (i := 1020) rfl), by rfl⟩
set_option maxRecDepth 100000 in
theorem se_X4_firstIn : Cond.selects yX4_firstIn.cls yX4_firstIn yX4_firstIn ∈ xT := List.mem_filter.mpr ⟨List.mem_append_right _ (List.mem_of_getElem? (i := 1021) rfl), by rfl⟩
set_option maxRecDepth 100000 in
theorem co_X4_firstIn : Cond.code yX4_firstIn cX4_firstIn 3 (some .int) ∈ xT := List.mem_filter.mpr ⟨List.mem_append_right _ (List.mem_of_getElem? (i := 1022) rfl), by rfl⟩
set_option maxRecDepth 100000 in
theorem im_X2_ticksBefore : Cond.instanceMethod yX2_ticksBefore ∈ xT := List.mem_filter.mpr ⟨List.mem_append_right _ (List.mem_of_getElem? (i := 1024) rfl), by rfl⟩
set_option maxRecDepth 100000 in
theorem se_X2_ticksBefore : Cond.selects yX2_ticksBefore.cls yX2_ticksBefore yX2_ticksBefore ∈ xT := List.mem_filter.mpr ⟨List.mem_append_right _ (List.mem_of_getElem? (i := 1025) rfl), by rfl⟩
set_option maxRecDepth 100000 in
theorem co_X2_ticksBefore : Cond.code yX2_ticksBefore cX2_ticksBefore 4 (some .int) ∈ xT := List.mem_filter.mpr ⟨List.mem_append_right _ (List.mem_of_getElem? (i := 1026) rfl), by rfl⟩
set_option maxRecDepth 100000 in
theorem kc_X2_29 : Cond.constant RX2 29 (Int32.ofInt (1000000)) ∈ xT := List.mem_filter.mpr ⟨List.mem_append_right _ (List.mem_of_getElem? (i := 1027) rfl), by rfl⟩
set_option maxRecDepth 100000 in
theorem im_X0_sumOf : Cond.instanceMethod yX0_sumOf ∈ xT := List.mem_filter.mpr ⟨List.mem_append_right _ (List.mem_of_getElem? (i := 1029) rfl), by rfl⟩
set_option maxRecDepth 100000 in
theorem se_X0_sumOf : Cond.selects yX0_sumOf.cls yX0_sumOf yX0_sumOf ∈ xT := List.mem_filter.mpr ⟨List.mem_append_right _ (List.mem_of_getElem? (i := 1030) rfl), by rfl⟩
set_option maxRecDepth 100000 in
theorem co_X0_sumOf : Cond.code yX0_sumOf cX0_sumOf 4 (some .int) ∈ xT := List.mem_filter.mpr ⟨List.mem_append_right _ (List.mem_of_getElem? (i := 1031) rfl), by rfl⟩
set_option maxRecDepth 100000 in
theorem im_X10_rest : Cond.instanceMethod yX10_rest ∈ xT := List.mem_filter.mpr ⟨List.mem_append_right _ (List.mem_of_getElem? (i := 1035) rfl), by rfl⟩
