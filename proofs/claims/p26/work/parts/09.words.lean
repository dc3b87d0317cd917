/-! THE TABLES' WORDS, by their places (written by program) -/
theorem uw_X0 : ∀ w ∈ u_ws RX0 TX0 5, w ∈ xT := by
  intro w hw
  obtain ⟨k, hk, rfl⟩ := List.mem_map.mp hw
  have hk := List.mem_range.mp hk
  match k, hk with
  | 0, _ => exact (show u_lay RX0 TX0 0 ∈ xT from List.mem_filter.mpr ⟨List.mem_append_right _ (List.mem_of_getElem? (i := 244) (by decide +kernel)), by decide +kernel⟩)
  | 1, _ => exact (show u_lay RX0 TX0 1 ∈ xT from List.mem_filter.mpr ⟨List.mem_append_right _ (List.mem_of_getElem? (i := 246) (by decide +kernel)), by decide +kernel⟩)
  | 2, _ => exact (show u_lay RX0 TX0 2 ∈ xT from List.mem_filter.mpr ⟨List.mem_append_right _ (List.mem_of_getElem? (i := 248) (by decide +kernel)), by decide +kernel⟩)
  | 3, _ => exact (show u_lay RX0 TX0 3 ∈ xT from List.mem_filter.mpr ⟨List.mem_append_right _ (List.mem_of_getElem? (i := 250) (by decide +kernel)), by decide +kernel⟩)
  | 4, _ => exact (show u_lay RX0 TX0 4 ∈ xT from List.mem_filter.mpr ⟨List.mem_append_right _ (List.mem_of_getElem? (i := 252) (by decide +kernel)), by decide +kernel⟩)
  | q + 5, hq => omega
theorem ft_X0 : xFt RX0 TX0 5 tyX0 := ⟨tyX0_ok, nmX0⟩
theorem uw_X1 : ∀ w ∈ u_ws RX1 TX1 5, w ∈ xT := by
  intro w hw
  obtain ⟨k, hk, rfl⟩ := List.mem_map.mp hw
  have hk := List.mem_range.mp hk
  match k, hk with
  | 0, _ => exact (show u_lay RX1 TX1 0 ∈ xT from List.mem_filter.mpr ⟨List.mem_append_right _ (List.mem_of_getElem? (i := 137) (by decide +kernel)), by decide +kernel⟩)
  | 1, _ => exact (show u_lay RX1 TX1 1 ∈ xT from List.mem_filter.mpr ⟨List.mem_append_right _ (List.mem_of_getElem? (i := 139) (by decide +kernel)), by decide +kernel⟩)
  | 2, _ => exact (show u_lay RX1 TX1 2 ∈ xT from List.mem_filter.mpr ⟨List.mem_append_right _ (List.mem_of_getElem? (i := 141) (by decide +kernel)), by decide +kernel⟩)
  | 3, _ => exact (show u_lay RX1 TX1 3 ∈ xT from List.mem_filter.mpr ⟨List.mem_append_right _ (List.mem_of_getElem? (i := 143) (by decide +kernel)), by decide +kernel⟩)
  | 4, _ => exact (show u_lay RX1 TX1 4 ∈ xT from List.mem_filter.mpr ⟨List.mem_append_right _ (List.mem_of_getElem? (i := 145) (by decide +kernel)), by decide +kernel⟩)
  | q + 5, hq => omega
theorem ft_X1 : xFt RX1 TX1 5 tyX1 := ⟨tyX1_ok, nmX1⟩
theorem uw_X2 : ∀ w ∈ u_ws RX2 TX2 4, w ∈ xT := by
  intro w hw
  obtain ⟨k, hk, rfl⟩ := List.mem_map.mp hw
  have hk := List.mem_range.mp hk
  match k, hk with
  | 0, _ => exact (show u_lay RX2 TX2 0 ∈ xT from List.mem_filter.mpr ⟨List.mem_append_right _ (List.mem_of_getElem? (i := 107) (by decide +kernel)), by decide +kernel⟩)
  | 1, _ => exact (show u_lay RX2 TX2 1 ∈ xT from List.mem_filter.mpr ⟨List.mem_append_right _ (List.mem_of_getElem? (i := 109) (by decide +kernel)), by decide +kernel⟩)
  | 2, _ => exact (show u_lay RX2 TX2 2 ∈ xT from List.mem_filter.mpr ⟨List.mem_append_right _ (List.mem_of_getElem? (i := 111) (by decide +kernel)), by decide +kernel⟩)
  | 3, _ => exact (show u_lay RX2 TX2 3 ∈ xT from List.mem_filter.mpr ⟨List.mem_append_right _ (List.mem_of_getElem? (i := 113) (by decide +kernel)), by decide +kernel⟩)
  | q + 4, hq => omega
theorem ft_X2 : xFt RX2 TX2 4 tyX2 := ⟨tyX2_ok, nmX2⟩
theorem uw_X3 : ∀ w ∈ u_ws RX3 TX3 3, w ∈ xT := by
  intro w hw
  obtain ⟨k, hk, rfl⟩ := List.mem_map.mp hw
  have hk := List.mem_range.mp hk
  match k, hk with
  | 0, _ => exact (show u_lay RX3 TX3 0 ∈ xT from List.mem_filter.mpr ⟨List.mem_append_right _ (List.mem_of_getElem? (i := 408) (by decide +kernel)), by decide +kernel⟩)
  | 1, _ => exact (show u_lay RX3 TX3 1 ∈ xT from List.mem_filter.mpr ⟨List.mem_append_right _ (List.mem_of_getElem? (i := 410) (by decide +kernel)), by decide +kernel⟩)
  | 2, _ => exact (show u_lay RX3 TX3 2 ∈ xT from List.mem_filter.mpr ⟨List.mem_append_right _ (List.mem_of_getElem? (i := 412) (by decide +kernel)), by decide +kernel⟩)
  | q + 3, hq => omega
theorem ft_X3 : xFt RX3 TX3 3 tyX3 := ⟨tyX3_ok, nmX3⟩
theorem uw_X4 : ∀ w ∈ u_ws RX4 TX4 5, w ∈ xT := by
  intro w hw
  obtain ⟨k, hk, rfl⟩ := List.mem_map.mp hw
  have hk := List.mem_range.mp hk
  match k, hk with
  | 0, _ => exact (show u_lay RX4 TX4 0 ∈ xT from List.mem_filter.mpr ⟨List.mem_append_right _ (List.mem_of_getElem? (i := 163) (by decide +kernel)), by decide +kernel⟩)
  | 1, _ => exact (show u_lay RX4 TX4 1 ∈ xT from List.mem_filter.mpr ⟨List.mem_append_right _ (List.mem_of_getElem? (i := 165) (by decide +kernel)), by decide +kernel⟩)
  | 2, _ => exact (show u_lay RX4 TX4 2 ∈ xT from List.mem_filter.mpr ⟨List.mem_append_right _ (List.mem_of_getElem? (i := 167) (by decide +kernel)), by decide +kernel⟩)
  | 3, _ => exact (show u_lay RX4 TX4 3 ∈ xT from List.mem_filter.mpr ⟨List.mem_append_right _ (List.mem_of_getElem? (i := 169) (by decide +kernel)), by decide +kernel⟩)
  | 4, _ => exact (show u_lay RX4 TX4 4 ∈ xT from List.mem_filter.mpr ⟨List.mem_append_right _ (List.mem_of_getElem? (i := 171) (by decide +kernel)), by decide +kernel⟩)
  | q + 5, hq => omega
theorem ft_X4 : xFt RX4 TX4 5 tyX4 := ⟨tyX4_ok, nmX4⟩
theorem uw_X5 : ∀ w ∈ u_ws RX5 TX5 9, w ∈ xT := by
  intro w hw
  obtain ⟨k, hk, rfl⟩ := List.mem_map.mp hw
  have hk := List.mem_range.mp hk
  match k, hk with
  | 0, _ => exact (show u_lay RX5 TX5 0 ∈ xT from List.mem_filter.mpr ⟨List.mem_append_right _ (List.mem_of_getElem? (i := 206) (by decide +kernel)), by decide +kernel⟩)
  | 1, _ => exact (show u_lay RX5 TX5 1 ∈ xT from List.mem_filter.mpr ⟨List.mem_append_right _ (List.mem_of_getElem? (i := 208) (by decide +kernel)), by decide +kernel⟩)
  | 2, _ => exact (show u_lay RX5 TX5 2 ∈ xT from List.mem_filter.mpr ⟨List.mem_append_right _ (List.mem_of_getElem? (i := 210) (by decide +kernel)), by decide +kernel⟩)
  | 3, _ => exact (show u_lay RX5 TX5 3 ∈ xT from List.mem_filter.mpr ⟨List.mem_append_right _ (List.mem_of_getElem? (i := 212) (by decide +kernel)), by decide +kernel⟩)
  | 4, _ => exact (show u_lay RX5 TX5 4 ∈ xT from List.mem_filter.mpr ⟨List.mem_append_right _ (List.mem_of_getElem? (i := 214) (by decide +kernel)), by decide +kernel⟩)
  | 5, _ => exact (show u_lay RX5 TX5 5 ∈ xT from List.mem_filter.mpr ⟨List.mem_append_right _ (List.mem_of_getElem? (i := 216) (by decide +kernel)), by decide +kernel⟩)
  | 6, _ => exact (show u_lay RX5 TX5 6 ∈ xT from List.mem_filter.mpr ⟨List.mem_append_right _ (List.mem_of_getElem? (i := 218) (by decide +kernel)), by decide +kernel⟩)
  | 7, _ => exact (show u_lay RX5 TX5 7 ∈ xT from List.mem_filter.mpr ⟨List.mem_append_right _ (List.mem_of_getElem? (i := 220) (by decide +kernel)), by decide +kernel⟩)
  | 8, _ => exact (show u_lay RX5 TX5 8 ∈ xT from List.mem_filter.mpr ⟨List.mem_append_right _ (List.mem_of_getElem? (i := 222) (by decide +kernel)), by decide +kernel⟩)
  | q + 9, hq => omega
theorem ft_X5 : xFt RX5 TX5 9 tyX5 := ⟨tyX5_ok, nmX5⟩
theorem uw_X6 : ∀ w ∈ u_ws RX6 TX6 7, w ∈ xT := by
  intro w hw
  obtain ⟨k, hk, rfl⟩ := List.mem_map.mp hw
  have hk := List.mem_range.mp hk
  match k, hk with
  | 0, _ => exact (show u_lay RX6 TX6 0 ∈ xT from List.mem_filter.mpr ⟨List.mem_append_right _ (List.mem_of_getElem? (i := 268) (by decide +kernel)), by decide +kernel⟩)
  | 1, _ => exact (show u_lay RX6 TX6 1 ∈ xT from List.mem_filter.mpr ⟨List.mem_append_right _ (List.mem_of_getElem? (i := 270) (by decide +kernel)), by decide +kernel⟩)
  | 2, _ => exact (show u_lay RX6 TX6 2 ∈ xT from List.mem_filter.mpr ⟨List.mem_append_right _ (List.mem_of_getElem? (i := 272) (by decide +kernel)), by decide +kernel⟩)
  | 3, _ => exact (show u_lay RX6 TX6 3 ∈ xT from List.mem_filter.mpr ⟨List.mem_append_right _ (List.mem_of_getElem? (i := 274) (by decide +kernel)), by decide +kernel⟩)
  | 4, _ => exact (show u_lay RX6 TX6 4 ∈ xT from List.mem_filter.mpr ⟨List.mem_append_right _ (List.mem_of_getElem? (i := 276) (by decide +kernel)), by decide +kernel⟩)
  | 5, _ => exact (show u_lay RX6 TX6 5 ∈ xT from List.mem_filter.mpr ⟨List.mem_append_right _ (List.mem_of_getElem? (i := 278) (by decide +kernel)), by decide +kernel⟩)
  | 6, _ => exact (show u_lay RX6 TX6 6 ∈ xT from List.mem_filter.mpr ⟨List.mem_append_right _ (List.mem_of_getElem? (i := 280) (by decide +kernel)), by decide +kernel⟩)
  | q + 7, hq => omega
theorem ft_X6 : xFt RX6 TX6 7 tyX6 := ⟨tyX6_ok, nmX6⟩
theorem uw_X7 : ∀ w ∈ u_ws RX7 TX7 2, w ∈ xT := by
  intro w hw
  obtain ⟨k, hk, rfl⟩ := List.mem_map.mp hw
  have hk := List.mem_range.mp hk
  match k, hk with
  | 0, _ => exact (show u_lay RX7 TX7 0 ∈ xT from List.mem_filter.mpr ⟨List.mem_append_right _ (List.mem_of_getElem? (i := 291) (by decide +kernel)), by decide +kernel⟩)
  | 1, _ => exact (show u_lay RX7 TX7 1 ∈ xT from List.mem_filter.mpr ⟨List.mem_append_right _ (List.mem_of_getElem? (i := 293) (by decide +kernel)), by decide +kernel⟩)
  | q + 2, hq => omega
theorem ft_X7 : xFt RX7 TX7 2 tyX7 := ⟨tyX7_ok, nmX7⟩
theorem uw_X8 : ∀ w ∈ u_ws RX8 TX8 9, w ∈ xT := by
  intro w hw
  obtain ⟨k, hk, rfl⟩ := List.mem_map.mp hw
  have hk := List.mem_range.mp hk
  match k, hk with
  | 0, _ => exact (show u_lay RX8 TX8 0 ∈ xT from List.mem_filter.mpr ⟨List.mem_append_right _ (List.mem_of_getElem? (i := 375) (by decide +kernel)), by decide +kernel⟩)
  | 1, _ => exact (show u_lay RX8 TX8 1 ∈ xT from List.mem_filter.mpr ⟨List.mem_append_right _ (List.mem_of_getElem? (i := 377) (by decide +kernel)), by decide +kernel⟩)
  | 2, _ => exact (show u_lay RX8 TX8 2 ∈ xT from List.mem_filter.mpr ⟨List.mem_append_right _ (List.mem_of_getElem? (i := 379) (by decide +kernel)), by decide +kernel⟩)
  | 3, _ => exact (show u_lay RX8 TX8 3 ∈ xT from List.mem_filter.mpr ⟨List.mem_append_right _ (List.mem_of_getElem? (i := 381) (by decide +kernel)), by decide +kernel⟩)
  | 4, _ => exact (show u_lay RX8 TX8 4 ∈ xT from List.mem_filter.mpr ⟨List.mem_append_right _ (List.mem_of_getElem? (i := 383) (by decide +kernel)), by decide +kernel⟩)
  | 5, _ => exact (show u_lay RX8 TX8 5 ∈ xT from List.mem_filter.mpr ⟨List.mem_append_right _ (List.mem_of_getElem? (i := 385) (by decide +kernel)), by decide +kernel⟩)
  | 6, _ => exact (show u_lay RX8 TX8 6 ∈ xT from List.mem_filter.mpr ⟨List.mem_append_right _ (List.mem_of_getElem? (i := 387) (by decide +kernel)), by decide +kernel⟩)
  | 7, _ => exact (show u_lay RX8 TX8 7 ∈ xT from List.mem_filter.mpr ⟨List.mem_append_right _ (List.mem_of_getElem? (i := 389) (by decide +kernel)), by decide +kernel⟩)
  | 8, _ => exact (show u_lay RX8 TX8 8 ∈ xT from List.mem_filter.mpr ⟨List.mem_append_right _ (List.mem_of_getElem? (i := 391) (by decide +kernel)), by decide +kernel⟩)
  | q + 9, hq => omega
theorem ft_X8 : xFt RX8 TX8 9 tyX8 := ⟨tyX8_ok, nmX8⟩
theorem uw_X9 : ∀ w ∈ u_ws RX9 TX9 7, w ∈ xT := by
  intro w hw
  obtain ⟨k, hk, rfl⟩ := List.mem_map.mp hw
  have hk := List.mem_range.mp hk
  match k, hk with
  | 0, _ => exact (show u_lay RX9 TX9 0 ∈ xT from List.mem_filter.mpr ⟨List.mem_append_right _ (List.mem_of_getElem? (i := 66) (by decide +kernel)), by decide +kernel⟩)
  | 1, _ => exact (show u_lay RX9 TX9 1 ∈ xT from List.mem_filter.mpr ⟨List.mem_append_right _ (List.mem_of_getElem? (i := 68) (by decide +kernel)), by decide +kernel⟩)
  | 2, _ => exact (show u_lay RX9 TX9 2 ∈ xT from List.mem_filter.mpr ⟨List.mem_append_right _ (List.mem_of_getElem? (i := 70) (by decide +kernel)), by decide +kernel⟩)
  | 3, _ => exact (show u_lay RX9 TX9 3 ∈ xT from List.mem_filter.mpr ⟨List.mem_append_right _ (List.mem_of_getElem? (i := 72) (by decide +kernel)), by decide +kernel⟩)
  | 4, _ => exact (show u_lay RX9 TX9 4 ∈ xT from List.mem_filter.mpr ⟨List.mem_append_right _ (List.mem_of_getElem? (i := 74) (by decide +kernel)), by decide +kernel⟩)
  | 5, _ => exact (show u_lay RX9 TX9 5 ∈ xT from List.mem_filter.mpr ⟨List.mem_append_right _ (List.mem_of_getElem? (i := 76) (by decide +kernel)), by decide +kernel⟩)
  | 6, _ => exact (show u_lay RX9 TX9 6 ∈ xT from List.mem_filter.mpr ⟨List.mem_append_right _ (List.mem_of_getElem? (i := 78) (by decide +kernel)), by decide +kernel⟩)
  | q + 7, hq => omega
theorem ft_X9 : xFt RX9 TX9 7 tyX9 := ⟨tyX9_ok, nmX9⟩
theorem uw_X10 : ∀ w ∈ u_ws RX10 TX10 15, w ∈ xT := by
  intro w hw
  obtain ⟨k, hk, rfl⟩ := List.mem_map.mp hw
  have hk := List.mem_range.mp hk
  match k, hk with
  | 0, _ => exact (show u_lay RX10 TX10 0 ∈ xT from List.mem_filter.mpr ⟨List.mem_append_right _ (List.mem_of_getElem? (i := 331) (by decide +kernel)), by decide +kernel⟩)
  | 1, _ => exact (show u_lay RX10 TX10 1 ∈ xT from List.mem_filter.mpr ⟨List.mem_append_right _ (List.mem_of_getElem? (i := 333) (by decide +kernel)), by decide +kernel⟩)
  | 2, _ => exact (show u_lay RX10 TX10 2 ∈ xT from List.mem_filter.mpr ⟨List.mem_append_right _ (List.mem_of_getElem? (i := 335) (by decide +kernel)), by decide +kernel⟩)
  | 3, _ => exact (show u_lay RX10 TX10 3 ∈ xT from List.mem_filter.mpr ⟨List.mem_append_right _ (List.mem_of_getElem? (i := 337) (by decide +kernel)), by decide +kernel⟩)
  | 4, _ => exact (show u_lay RX10 TX10 4 ∈ xT from List.mem_filter.mpr ⟨List.mem_append_right _ (List.mem_of_getElem? (i := 339) (by decide +kernel)), by decide +kernel⟩)
  | 5, _ => exact (show u_lay RX10 TX10 5 ∈ xT from List.mem_filter.mpr ⟨List.mem_append_right _ (List.mem_of_getElem? (i := 341) (by decide +kernel)), by decide +kernel⟩)
  | 6, _ => exact (show u_lay RX10 TX10 6 ∈ xT from List.mem_filter.mpr ⟨List.mem_append_right _ (List.mem_of_getElem? (i := 343) (by decide +kernel)), by decide +kernel⟩)
  | 7, _ => exact (show u_lay RX10 TX10 7 ∈ xT from List.mem_filter.mpr ⟨List.mem_append_right _ (List.mem_of_getElem? (i := 345) (by decide +kernel)), by decide +kernel⟩)
  | 8, _ => exact (show u_lay RX10 TX10 8 ∈ xT from List.mem_filter.mpr ⟨List.mem_append_right _ (List.mem_of_getElem? (i := 347) (by decide +kernel)), by decide +kernel⟩)
  | 9, _ => exact (show u_lay RX10 TX10 9 ∈ xT from List.mem_filter.mpr ⟨List.mem_append_right _ (List.mem_of_getElem? (i := 349) (by decide +kernel)), by decide +kernel⟩)
  | 10, _ => exact (show u_lay RX10 TX10 10 ∈ xT from List.mem_filter.mpr ⟨List.mem_append_right _ (List.mem_of_getElem? (i := 351) (by decide +kernel)), by decide +kernel⟩)
  | 11, _ => exact (show u_lay RX10 TX10 11 ∈ xT from List.mem_filter.mpr ⟨List.mem_append_right _ (List.mem_of_getElem? (i := 353) (by decide +kernel)), by decide +kernel⟩)
  | 12, _ => exact (show u_lay RX10 TX10 12 ∈ xT from List.mem_filter.mpr ⟨List.mem_append_right _ (List.mem_of_getElem? (i := 355) (by decide +kernel)), by decide +kernel⟩)
  | 13, _ => exact (show u_lay RX10 TX10 13 ∈ xT from List.mem_filter.mpr ⟨List.mem_append_right _ (List.mem_of_getElem? (i := 357) (by decide +kernel)), by decide +kernel⟩)
  | 14, _ => exact (show u_lay RX10 TX10 14 ∈ xT from List.mem_filter.mpr ⟨List.mem_append_right _ (List.mem_of_getElem? (i := 359) (by decide +kernel)), by decide +kernel⟩)
  | q + 15, hq => omega
theorem ft_X10 : xFt RX10 TX10 15 tyX10 := ⟨tyX10_ok, nmX10⟩
theorem uw_X11 : ∀ w ∈ u_ws RX11 TX11 5, w ∈ xT := by
  intro w hw
  obtain ⟨k, hk, rfl⟩ := List.mem_map.mp hw
  have hk := List.mem_range.mp hk
  match k, hk with
  | 0, _ => exact (show u_lay RX11 TX11 0 ∈ xT from List.mem_filter.mpr ⟨List.mem_append_right _ (List.mem_of_getElem? (i := 420) (by decide +kernel)), by decide +kernel⟩)
  | 1, _ => exact (show u_lay RX11 TX11 1 ∈ xT from List.mem_filter.mpr ⟨List.mem_append_right _ (List.mem_of_getElem? (i := 422) (by decide +kernel)), by decide +kernel⟩)
  | 2, _ => exact (show u_lay RX11 TX11 2 ∈ xT from List.mem_filter.mpr ⟨List.mem_append_right _ (List.mem_of_getElem? (i := 424) (by decide +kernel)), by decide +kernel⟩)
  | 3, _ => exact (show u_lay RX11 TX11 3 ∈ xT from List.mem_filter.mpr ⟨List.mem_append_right _ (List.mem_of_getElem? (i := 426) (by decide +kernel)), by decide +kernel⟩)
  | 4, _ => exact (show u_lay RX11 TX11 4 ∈ xT from List.mem_filter.mpr ⟨List.mem_append_right _ (List.mem_of_getElem? (i := 428) (by decide +kernel)), by decide +kernel⟩)
  | q + 5, hq => omega
theorem ft_X11 : xFt RX11 TX11 5 tyX11 := ⟨tyX11_ok, nmX11⟩
theorem uw_X12 : ∀ w ∈ u_ws RX12 TX12 4, w ∈ xT := by
  intro w hw
  obtain ⟨k, hk, rfl⟩ := List.mem_map.mp hw
  have hk := List.mem_range.mp hk
  match k, hk with
  | 0, _ => exact (show u_lay RX12 TX12 0 ∈ xT from List.mem_filter.mpr ⟨List.mem_append_right _ (List.mem_of_getElem? (i := 1234) (by decide +kernel)), by decide +kernel⟩)
  | 1, _ => exact (show u_lay RX12 TX12 1 ∈ xT from List.mem_filter.mpr ⟨List.mem_append_right _ (List.mem_of_getElem? (i := 1236) (by decide +kernel)), by decide +kernel⟩)
  | 2, _ => exact (show u_lay RX12 TX12 2 ∈ xT from List.mem_filter.mpr ⟨List.mem_append_right _ (List.mem_of_getElem? (i := 1238) (by decide +kernel)), by decide +kernel⟩)
  | 3, _ => exact (show u_lay RX12 TX12 3 ∈ xT from List.mem_filter.mpr ⟨List.mem_append_right _ (List.mem_of_getElem? (i := 1240) (by decide +kernel)), by decide +kernel⟩)
  | q + 4, hq => omega
theorem ft_X12 : xFt RX12 TX12 4 tyX12 := ⟨tyX12_ok, nmX12⟩
theorem uw_X13 : ∀ w ∈ u_ws RX13 TX13 1, w ∈ xT := by
  intro w hw
  obtain ⟨k, hk, rfl⟩ := List.mem_map.mp hw
  have hk := List.mem_range.mp hk
  match k, hk with
  | 0, _ => exact (show u_lay RX13 TX13 0 ∈ xT from List.mem_filter.mpr ⟨List.mem_append_right _ (List.mem_of_getElem? (i := 493) (by decide +kernel)), by decide +kernel⟩)
  | q + 1, hq => omega
theorem ft_X13 : xFt RX13 TX13 1 tyX13 := ⟨tyX13_ok, nmX13⟩
theorem uw_X14 : ∀ w ∈ u_ws RX14 TX14 14, w ∈ xT := by
  intro w hw
  obtain ⟨k, hk, rfl⟩ := List.mem_map.mp hw
  have hk := List.mem_range.mp hk
  match k, hk with
  | 0, _ => exact (show u_lay RX14 TX14 0 ∈ xT from List.mem_filter.mpr ⟨List.mem_append_right _ (List.mem_of_getElem? (i := 535) (by decide +kernel)), by decide +kernel⟩)
  | 1, _ => exact (show u_lay RX14 TX14 1 ∈ xT from List.mem_filter.mpr ⟨List.mem_append_right _ (List.mem_of_getElem? (i := 537) (by decide +kernel)), by decide +kernel⟩)
  | 2, _ => exact (show u_lay RX14 TX14 2 ∈ xT from List.mem_filter.mpr ⟨List.mem_append_right _ (List.mem_of_getElem? (i := 539) (by decide +kernel)), by decide +kernel⟩)
  | 3, _ => exact (show u_lay RX14 TX14 3 ∈ xT from List.mem_filter.mpr ⟨List.mem_append_right _ (List.mem_of_getElem? (i := 541) (by decide +kernel)), by decide +kernel⟩)
  | 4, _ => exact (show u_lay RX14 TX14 4 ∈ xT from List.mem_filter.mpr ⟨List.mem_append_right _ (List.mem_of_getElem? (i := 543) (by decide +kernel)), by decide +kernel⟩)
  | 5, _ => exact (show u_lay RX14 TX14 5 ∈ xT from List.mem_filter.mpr ⟨List.mem_append_right _ (List.mem_of_getElem? (i := 545) (by decide +kernel)), by decide +kernel⟩)
  | 6, _ => exact (show u_lay RX14 TX14 6 ∈ xT from List.mem_filter.mpr ⟨List.mem_append_right _ (List.mem_of_getElem? (i := 547) (by decide +kernel)), by decide +kernel⟩)
  | 7, _ => exact (show u_lay RX14 TX14 7 ∈ xT from List.mem_filter.mpr ⟨List.mem_append_right _ (List.mem_of_getElem? (i := 549) (by decide +kernel)), by decide +kernel⟩)
  | 8, _ => exact (show u_lay RX14 TX14 8 ∈ xT from List.mem_filter.mpr ⟨List.mem_append_right _ (List.mem_of_getElem? (i := 551) (by decide +kernel)), by decide +kernel⟩)
  | 9, _ => exact (show u_lay RX14 TX14 9 ∈ xT from List.mem_filter.mpr ⟨List.mem_append_right _ (List.mem_of_getElem? (i := 553) (by decide +kernel)), by decide +kernel⟩)
  | 10, _ => exact (show u_lay RX14 TX14 10 ∈ xT from List.mem_filter.mpr ⟨List.mem_append_right _ (List.mem_of_getElem? (i := 555) (by decide +kernel)), by decide +kernel⟩)
  | 11, _ => exact (show u_lay RX14 TX14 11 ∈ xT from List.mem_filter.mpr ⟨List.mem_append_right _ (List.mem_of_getElem? (i := 557) (by decide +kernel)), by decide +kernel⟩)
  | 12, _ => exact (show u_lay RX14 TX14 12 ∈ xT from List.mem_filter.mpr ⟨List.mem_append_right _ (List.mem_of_getElem? (i := 559) (by decide +kernel)), by decide +kernel⟩)
  | 13, _ => exact (show u_lay RX14 TX14 13 ∈ xT from List.mem_filter.mpr ⟨List.mem_append_right _ (List.mem_of_getElem? (i := 561) (by decide +kernel)), by decide +kernel⟩)
  | q + 14, hq => omega
theorem ft_X14 : xFt RX14 TX14 14 tyX14 := ⟨tyX14_ok, nmX14⟩
theorem uw_J0 : ∀ w ∈ u_ws RJ0 TJ0 4, w ∈ xT := by
  intro w hw
  obtain ⟨k, hk, rfl⟩ := List.mem_map.mp hw
  have hk := List.mem_range.mp hk
  match k, hk with
  | 0, _ => exact (show u_lay RJ0 TJ0 0 ∈ xT from List.mem_filter.mpr ⟨List.mem_append_right _ (List.mem_of_getElem? (i := 1453) (by decide +kernel)), by decide +kernel⟩)
  | 1, _ => exact (show u_lay RJ0 TJ0 1 ∈ xT from List.mem_filter.mpr ⟨List.mem_append_right _ (List.mem_of_getElem? (i := 1455) (by decide +kernel)), by decide +kernel⟩)
  | 2, _ => exact (show u_lay RJ0 TJ0 2 ∈ xT from List.mem_filter.mpr ⟨List.mem_append_right _ (List.mem_of_getElem? (i := 1457) (by decide +kernel)), by decide +kernel⟩)
  | 3, _ => exact (show u_lay RJ0 TJ0 3 ∈ xT from List.mem_filter.mpr ⟨List.mem_append_right _ (List.mem_of_getElem? (i := 1459) (by decide +kernel)), by decide +kernel⟩)
  | q + 4, hq => omega
theorem ft_J0 : xFt RJ0 TJ0 4 tyJ0 := ⟨tyJ0_ok, nmJ0⟩
theorem uw_J4 : ∀ w ∈ u_ws RJ4 TJ4 4, w ∈ xT := by
  intro w hw
  obtain ⟨k, hk, rfl⟩ := List.mem_map.mp hw
  have hk := List.mem_range.mp hk
  match k, hk with
  | 0, _ => exact (show u_lay RJ4 TJ4 0 ∈ xT from List.mem_filter.mpr ⟨List.mem_append_right _ (List.mem_of_getElem? (i := 1271) (by decide +kernel)), by decide +kernel⟩)
  | 1, _ => exact (show u_lay RJ4 TJ4 1 ∈ xT from List.mem_filter.mpr ⟨List.mem_append_right _ (List.mem_of_getElem? (i := 1273) (by decide +kernel)), by decide +kernel⟩)
  | 2, _ => exact (show u_lay RJ4 TJ4 2 ∈ xT from List.mem_filter.mpr ⟨List.mem_append_right _ (List.mem_of_getElem? (i := 1275) (by decide +kernel)), by decide +kernel⟩)
  | 3, _ => exact (show u_lay RJ4 TJ4 3 ∈ xT from List.mem_filter.mpr ⟨List.mem_append_right _ (List.mem_of_getElem? (i := 1277) (by decide +kernel)), by decide +kernel⟩)
  | q + 4, hq => omega
theorem ft_J4 : xFt RJ4 TJ4 4 tyJ4 := ⟨tyJ4_ok, nmJ4⟩
theorem in_L : Cond.initialized RL ∈ xT := List.mem_filter.mpr ⟨List.mem_append_right _ (List.mem_of_getElem? (i := 0) (by decide +kernel)), by decide +kernel⟩
theorem in_X11 : Cond.initialized RX11 ∈ xT := List.mem_filter.mpr ⟨List.mem_append_right _ (List.mem_of_getElem? (i := 1) (by decide +kernel)), by decide +kernel⟩
theorem in_X8 : Cond.initialized RX8 ∈ xT := List.mem_filter.mpr ⟨List.mem_append_right _ (List.mem_of_getElem? (i := 2) (by decide +kernel)), by decide +kernel⟩
theorem in_X9 : Cond.initialized RX9 ∈ xT := List.mem_filter.mpr ⟨List.mem_append_right _ (List.mem_of_getElem? (i := 3) (by decide +kernel)), by decide +kernel⟩
theorem in_X10 : Cond.initialized RX10 ∈ xT := List.mem_filter.mpr ⟨List.mem_append_right _ (List.mem_of_getElem? (i := 4) (by decide +kernel)), by decide +kernel⟩
theorem in_X2 : Cond.initialized RX2 ∈ xT := List.mem_filter.mpr ⟨List.mem_append_right _ (List.mem_of_getElem? (i := 5) (by decide +kernel)), by decide +kernel⟩
theorem in_X1 : Cond.initialized RX1 ∈ xT := List.mem_filter.mpr ⟨List.mem_append_right _ (List.mem_of_getElem? (i := 6) (by decide +kernel)), by decide +kernel⟩
theorem in_X4 : Cond.initialized RX4 ∈ xT := List.mem_filter.mpr ⟨List.mem_append_right _ (List.mem_of_getElem? (i := 7) (by decide +kernel)), by decide +kernel⟩
theorem in_X5 : Cond.initialized RX5 ∈ xT := List.mem_filter.mpr ⟨List.mem_append_right _ (List.mem_of_getElem? (i := 8) (by decide +kernel)), by decide +kernel⟩
theorem in_X0 : Cond.initialized RX0 ∈ xT := List.mem_filter.mpr ⟨List.mem_append_right _ (List.mem_of_getElem? (i := 9) (by decide +kernel)), by decide +kernel⟩
theorem in_X6 : Cond.initialized RX6 ∈ xT := List.mem_filter.mpr ⟨List.mem_append_right _ (List.mem_of_getElem? (i := 10) (by decide +kernel)), by decide +kernel⟩
theorem in_X7 : Cond.initialized RX7 ∈ xT := List.mem_filter.mpr ⟨List.mem_append_right _ (List.mem_of_getElem? (i := 11) (by decide +kernel)), by decide +kernel⟩
theorem in_X3 : Cond.initialized RX3 ∈ xT := List.mem_filter.mpr ⟨List.mem_append_right _ (List.mem_of_getElem? (i := 12) (by decide +kernel)), by decide +kernel⟩
theorem in_X13 : Cond.initialized RX13 ∈ xT := List.mem_filter.mpr ⟨List.mem_append_right _ (List.mem_of_getElem? (i := 13) (by decide +kernel)), by decide +kernel⟩
theorem in_X14 : Cond.initialized RX14 ∈ xT := List.mem_filter.mpr ⟨List.mem_append_right _ (List.mem_of_getElem? (i := 14) (by decide +kernel)), by decide +kernel⟩
theorem in_java_lang_Throwable : Cond.initialized "java/lang/Throwable" ∈ xT := List.mem_filter.mpr ⟨List.mem_append_right _ (List.mem_of_getElem? (i := 15) (by decide +kernel)), by decide +kernel⟩
theorem in_java_lang_Exception : Cond.initialized "java/lang/Exception" ∈ xT := List.mem_filter.mpr ⟨List.mem_append_right _ (List.mem_of_getElem? (i := 16) (by decide +kernel)), by decide +kernel⟩
theorem in_java_lang_RuntimeException : Cond.initialized "java/lang/RuntimeException" ∈ xT := List.mem_filter.mpr ⟨List.mem_append_right _ (List.mem_of_getElem? (i := 17) (by decide +kernel)), by decide +kernel⟩
theorem in_java_lang_IllegalArgumentException : Cond.initialized "java/lang/IllegalArgumentException" ∈ xT := List.mem_filter.mpr ⟨List.mem_append_right _ (List.mem_of_getElem? (i := 18) (by decide +kernel)), by decide +kernel⟩
theorem in_java_lang_IndexOutOfBoundsException : Cond.initialized "java/lang/IndexOutOfBoundsException" ∈ xT := List.mem_filter.mpr ⟨List.mem_append_right _ (List.mem_of_getElem? (i := 19) (by decide +kernel)), by decide +kernel⟩
theorem in_J10 : Cond.initialized RJ10 ∈ xT := List.mem_filter.mpr ⟨List.mem_append_right _ (List.mem_of_getElem? (i := 20) (by decide +kernel)), by decide +kernel⟩
theorem in_J9 : Cond.initialized RJ9 ∈ xT := List.mem_filter.mpr ⟨List.mem_append_right _ (List.mem_of_getElem? (i := 21) (by decide +kernel)), by decide +kernel⟩
theorem in_java_lang_IllegalStateException : Cond.initialized "java/lang/IllegalStateException" ∈ xT := List.mem_filter.mpr ⟨List.mem_append_right _ (List.mem_of_getElem? (i := 22) (by decide +kernel)), by decide +kernel⟩
theorem in_J0 : Cond.initialized RJ0 ∈ xT := List.mem_filter.mpr ⟨List.mem_append_right _ (List.mem_of_getElem? (i := 23) (by decide +kernel)), by decide +kernel⟩
theorem in_J1 : Cond.initialized RJ1 ∈ xT := List.mem_filter.mpr ⟨List.mem_append_right _ (List.mem_of_getElem? (i := 24) (by decide +kernel)), by decide +kernel⟩
theorem in_J3 : Cond.initialized RJ3 ∈ xT := List.mem_filter.mpr ⟨List.mem_append_right _ (List.mem_of_getElem? (i := 25) (by decide +kernel)), by decide +kernel⟩
theorem in_J2 : Cond.initialized RJ2 ∈ xT := List.mem_filter.mpr ⟨List.mem_append_right _ (List.mem_of_getElem? (i := 26) (by decide +kernel)), by decide +kernel⟩
theorem in_X12 : Cond.initialized RX12 ∈ xT := List.mem_filter.mpr ⟨List.mem_append_right _ (List.mem_of_getElem? (i := 27) (by decide +kernel)), by decide +kernel⟩
theorem in_J5 : Cond.initialized RJ5 ∈ xT := List.mem_filter.mpr ⟨List.mem_append_right _ (List.mem_of_getElem? (i := 28) (by decide +kernel)), by decide +kernel⟩
theorem in_J4 : Cond.initialized RJ4 ∈ xT := List.mem_filter.mpr ⟨List.mem_append_right _ (List.mem_of_getElem? (i := 29) (by decide +kernel)), by decide +kernel⟩
theorem in_J8 : Cond.initialized RJ8 ∈ xT := List.mem_filter.mpr ⟨List.mem_append_right _ (List.mem_of_getElem? (i := 30) (by decide +kernel)), by decide +kernel⟩
theorem in_J7 : Cond.initialized RJ7 ∈ xT := List.mem_filter.mpr ⟨List.mem_append_right _ (List.mem_of_getElem? (i := 31) (by decide +kernel)), by decide +kernel⟩
theorem in_java_lang_Number : Cond.initialized "java/lang/Number" ∈ xT := List.mem_filter.mpr ⟨List.mem_append_right _ (List.mem_of_getElem? (i := 32) (by decide +kernel)), by decide +kernel⟩
theorem in_J6 : Cond.initialized RJ6 ∈ xT := List.mem_filter.mpr ⟨List.mem_append_right _ (List.mem_of_getElem? (i := 33) (by decide +kernel)), by decide +kernel⟩
theorem in_java_util_NoSuchElementException : Cond.initialized "java/util/NoSuchElementException" ∈ xT := List.mem_filter.mpr ⟨List.mem_append_right _ (List.mem_of_getElem? (i := 34) (by decide +kernel)), by decide +kernel⟩
theorem kl_L_14 : Cond.classLink RL 14 RX11 ∈ xT := List.mem_filter.mpr ⟨List.mem_append_right _ (List.mem_of_getElem? (i := 35) (by decide +kernel)), by decide +kernel⟩
theorem is_X11 : Cond.instantiable RX11 5 ∈ xT := List.mem_filter.mpr ⟨List.mem_append_right _ (List.mem_of_getElem? (i := 36) (by decide +kernel)), by decide +kernel⟩
theorem im_X11_init : Cond.instanceMethod yX11_init ∈ xT := List.mem_filter.mpr ⟨List.mem_append_right _ (List.mem_of_getElem? (i := 38) (by decide +kernel)), by decide +kernel⟩
theorem co_X11_init : Cond.code yX11_init cX11_init 1 none ∈ xT := List.mem_filter.mpr ⟨List.mem_append_right _ (List.mem_of_getElem? (i := 39) (by decide +kernel)), by decide +kernel⟩
theorem kl_X11_7 : Cond.classLink RX11 7 RX8 ∈ xT := List.mem_filter.mpr ⟨List.mem_append_right _ (List.mem_of_getElem? (i := 43) (by decide +kernel)), by decide +kernel⟩
theorem is_X8 : Cond.instantiable RX8 9 ∈ xT := List.mem_filter.mpr ⟨List.mem_append_right _ (List.mem_of_getElem? (i := 44) (by decide +kernel)), by decide +kernel⟩
theorem im_X8_init : Cond.instanceMethod yX8_init ∈ xT := List.mem_filter.mpr ⟨List.mem_append_right _ (List.mem_of_getElem? (i := 46) (by decide +kernel)), by decide +kernel⟩
theorem co_X8_init : Cond.code yX8_init cX8_init 1 none ∈ xT := List.mem_filter.mpr ⟨List.mem_append_right _ (List.mem_of_getElem? (i := 47) (by decide +kernel)), by decide +kernel⟩
theorem kl_X8_9 : Cond.classLink RX8 9 RX9 ∈ xT := List.mem_filter.mpr ⟨List.mem_append_right _ (List.mem_of_getElem? (i := 49) (by decide +kernel)), by decide +kernel⟩
theorem is_X9 : Cond.instantiable RX9 7 ∈ xT := List.mem_filter.mpr ⟨List.mem_append_right _ (List.mem_of_getElem? (i := 50) (by decide +kernel)), by decide +kernel⟩
theorem im_X9_init : Cond.instanceMethod yX9_init ∈ xT := List.mem_filter.mpr ⟨List.mem_append_right _ (List.mem_of_getElem? (i := 52) (by decide +kernel)), by decide +kernel⟩
theorem co_X9_init : Cond.code yX9_init cX9_init 1 none ∈ xT := List.mem_filter.mpr ⟨List.mem_append_right _ (List.mem_of_getElem? (i := 53) (by decide +kernel)), by decide +kernel⟩
theorem ac_byte : Cond.arrayClass .byte ∈ xT := List.mem_filter.mpr ⟨List.mem_append_right _ (List.mem_of_getElem? (i := 81) (by decide +kernel)), by decide +kernel⟩
theorem kl_X8_18 : Cond.classLink RX8 18 RX10 ∈ xT := List.mem_filter.mpr ⟨List.mem_append_right _ (List.mem_of_getElem? (i := 82) (by decide +kernel)), by decide +kernel⟩
theorem is_X10 : Cond.instantiable RX10 15 ∈ xT := List.mem_filter.mpr ⟨List.mem_append_right _ (List.mem_of_getElem? (i := 83) (by decide +kernel)), by decide +kernel⟩
theorem im_X10_init : Cond.instanceMethod yX10_init ∈ xT := List.mem_filter.mpr ⟨List.mem_append_right _ (List.mem_of_getElem? (i := 85) (by decide +kernel)), by decide +kernel⟩
theorem co_X10_init : Cond.code yX10_init cX10_init 1 none ∈ xT := List.mem_filter.mpr ⟨List.mem_append_right _ (List.mem_of_getElem? (i := 86) (by decide +kernel)), by decide +kernel⟩
theorem kl_X10_9 : Cond.classLink RX10 9 RX2 ∈ xT := List.mem_filter.mpr ⟨List.mem_append_right _ (List.mem_of_getElem? (i := 88) (by decide +kernel)), by decide +kernel⟩
theorem is_X2 : Cond.instantiable RX2 4 ∈ xT := List.mem_filter.mpr ⟨List.mem_append_right _ (List.mem_of_getElem? (i := 89) (by decide +kernel)), by decide +kernel⟩
theorem im_X2_init : Cond.instanceMethod yX2_init ∈ xT := List.mem_filter.mpr ⟨List.mem_append_right _ (List.mem_of_getElem? (i := 91) (by decide +kernel)), by decide +kernel⟩
theorem co_X2_init : Cond.code yX2_init cX2_init 1 none ∈ xT := List.mem_filter.mpr ⟨List.mem_append_right _ (List.mem_of_getElem? (i := 92) (by decide +kernel)), by decide +kernel⟩
theorem ac_int : Cond.arrayClass .int ∈ xT := List.mem_filter.mpr ⟨List.mem_append_right _ (List.mem_of_getElem? (i := 116) (by decide +kernel)), by decide +kernel⟩
theorem kl_X10_18 : Cond.classLink RX10 18 RX1 ∈ xT := List.mem_filter.mpr ⟨List.mem_append_right _ (List.mem_of_getElem? (i := 117) (by decide +kernel)), by decide +kernel⟩
theorem is_X1 : Cond.instantiable RX1 5 ∈ xT := List.mem_filter.mpr ⟨List.mem_append_right _ (List.mem_of_getElem? (i := 118) (by decide +kernel)), by decide +kernel⟩
theorem im_X1_init : Cond.instanceMethod yX1_init ∈ xT := List.mem_filter.mpr ⟨List.mem_append_right _ (List.mem_of_getElem? (i := 120) (by decide +kernel)), by decide +kernel⟩
theorem co_X1_init : Cond.code yX1_init cX1_init 1 none ∈ xT := List.mem_filter.mpr ⟨List.mem_append_right _ (List.mem_of_getElem? (i := 121) (by decide +kernel)), by decide +kernel⟩
theorem kl_X10_25 : Cond.classLink RX10 25 RX4 ∈ xT := List.mem_filter.mpr ⟨List.mem_append_right _ (List.mem_of_getElem? (i := 148) (by decide +kernel)), by decide +kernel⟩
theorem is_X4 : Cond.instantiable RX4 5 ∈ xT := List.mem_filter.mpr ⟨List.mem_append_right _ (List.mem_of_getElem? (i := 149) (by decide +kernel)), by decide +kernel⟩
theorem im_X4_init : Cond.instanceMethod yX4_init ∈ xT := List.mem_filter.mpr ⟨List.mem_append_right _ (List.mem_of_getElem? (i := 151) (by decide +kernel)), by decide +kernel⟩
theorem co_X4_init : Cond.code yX4_init cX4_init 1 none ∈ xT := List.mem_filter.mpr ⟨List.mem_append_right _ (List.mem_of_getElem? (i := 152) (by decide +kernel)), by decide +kernel⟩
theorem kl_X10_32 : Cond.classLink RX10 32 RX5 ∈ xT := List.mem_filter.mpr ⟨List.mem_append_right _ (List.mem_of_getElem? (i := 174) (by decide +kernel)), by decide +kernel⟩
theorem is_X5 : Cond.instantiable RX5 9 ∈ xT := List.mem_filter.mpr ⟨List.mem_append_right _ (List.mem_of_getElem? (i := 175) (by decide +kernel)), by decide +kernel⟩
theorem im_X5_init : Cond.instanceMethod yX5_init ∈ xT := List.mem_filter.mpr ⟨List.mem_append_right _ (List.mem_of_getElem? (i := 177) (by decide +kernel)), by decide +kernel⟩
theorem co_X5_init : Cond.code yX5_init cX5_init 1 none ∈ xT := List.mem_filter.mpr ⟨List.mem_append_right _ (List.mem_of_getElem? (i := 178) (by decide +kernel)), by decide +kernel⟩
theorem kl_X10_39 : Cond.classLink RX10 39 RX0 ∈ xT := List.mem_filter.mpr ⟨List.mem_append_right _ (List.mem_of_getElem? (i := 225) (by decide +kernel)), by decide +kernel⟩
theorem is_X0 : Cond.instantiable RX0 5 ∈ xT := List.mem_filter.mpr ⟨List.mem_append_right _ (List.mem_of_getElem? (i := 226) (by decide +kernel)), by decide +kernel⟩
theorem im_X0_init : Cond.instanceMethod yX0_init ∈ xT := List.mem_filter.mpr ⟨List.mem_append_right _ (List.mem_of_getElem? (i := 228) (by decide +kernel)), by decide +kernel⟩
theorem co_X0_init : Cond.code yX0_init cX0_init 1 none ∈ xT := List.mem_filter.mpr ⟨List.mem_append_right _ (List.mem_of_getElem? (i := 229) (by decide +kernel)), by decide +kernel⟩
theorem kl_X10_46 : Cond.classLink RX10 46 RX6 ∈ xT := List.mem_filter.mpr ⟨List.mem_append_right _ (List.mem_of_getElem? (i := 255) (by decide +kernel)), by decide +kernel⟩
theorem is_X6 : Cond.instantiable RX6 7 ∈ xT := List.mem_filter.mpr ⟨List.mem_append_right _ (List.mem_of_getElem? (i := 256) (by decide +kernel)), by decide +kernel⟩
theorem im_X6_init : Cond.instanceMethod yX6_init ∈ xT := List.mem_filter.mpr ⟨List.mem_append_right _ (List.mem_of_getElem? (i := 258) (by decide +kernel)), by decide +kernel⟩
theorem co_X6_init : Cond.code yX6_init cX6_init 1 none ∈ xT := List.mem_filter.mpr ⟨List.mem_append_right _ (List.mem_of_getElem? (i := 259) (by decide +kernel)), by decide +kernel⟩
theorem kl_X10_53 : Cond.classLink RX10 53 RX7 ∈ xT := List.mem_filter.mpr ⟨List.mem_append_right _ (List.mem_of_getElem? (i := 283) (by decide +kernel)), by decide +kernel⟩
theorem is_X7 : Cond.instantiable RX7 2 ∈ xT := List.mem_filter.mpr ⟨List.mem_append_right _ (List.mem_of_getElem? (i := 284) (by decide +kernel)), by decide +kernel⟩
theorem im_X7_init : Cond.instanceMethod yX7_init ∈ xT := List.mem_filter.mpr ⟨List.mem_append_right _ (List.mem_of_getElem? (i := 286) (by decide +kernel)), by decide +kernel⟩
theorem co_X7_init : Cond.code yX7_init cX7_init 2 none ∈ xT := List.mem_filter.mpr ⟨List.mem_append_right _ (List.mem_of_getElem? (i := 287) (by decide +kernel)), by decide +kernel⟩
theorem kc_X10_75 : Cond.constant RX10 75 (Int32.ofInt (1000000)) ∈ xT := List.mem_filter.mpr ⟨List.mem_append_right _ (List.mem_of_getElem? (i := 296) (by decide +kernel)), by decide +kernel⟩
theorem kl_X11_16 : Cond.classLink RX11 16 RX10 ∈ xT := List.mem_filter.mpr ⟨List.mem_append_right _ (List.mem_of_getElem? (i := 394) (by decide +kernel)), by decide +kernel⟩
theorem kl_X11_26 : Cond.classLink RX11 26 RX3 ∈ xT := List.mem_filter.mpr ⟨List.mem_append_right _ (List.mem_of_getElem? (i := 396) (by decide +kernel)), by decide +kernel⟩
theorem is_X3 : Cond.instantiable RX3 3 ∈ xT := List.mem_filter.mpr ⟨List.mem_append_right _ (List.mem_of_getElem? (i := 397) (by decide +kernel)), by decide +kernel⟩
theorem im_X3_init : Cond.instanceMethod yX3_init ∈ xT := List.mem_filter.mpr ⟨List.mem_append_right _ (List.mem_of_getElem? (i := 399) (by decide +kernel)), by decide +kernel⟩
theorem co_X3_init : Cond.code yX3_init cX3_init 2 none ∈ xT := List.mem_filter.mpr ⟨List.mem_append_right _ (List.mem_of_getElem? (i := 400) (by decide +kernel)), by decide +kernel⟩
theorem kl_X3_9 : Cond.classLink RX3 9 RX10 ∈ xT := List.mem_filter.mpr ⟨List.mem_append_right _ (List.mem_of_getElem? (i := 402) (by decide +kernel)), by decide +kernel⟩
theorem im_X11_errorOffset : Cond.instanceMethod yX11_errorOffset ∈ xT := List.mem_filter.mpr ⟨List.mem_append_right _ (List.mem_of_getElem? (i := 432) (by decide +kernel)), by decide +kernel⟩
theorem se_X11_errorOffset : Cond.selects yX11_errorOffset.cls yX11_errorOffset yX11_errorOffset ∈ xT := List.mem_filter.mpr ⟨List.mem_append_right _ (List.mem_of_getElem? (i := 433) (by decide +kernel)), by decide +kernel⟩
theorem co_X11_errorOffset : Cond.code yX11_errorOffset cX11_errorOffset 1 (some .int) ∈ xT := List.mem_filter.mpr ⟨List.mem_append_right _ (List.mem_of_getElem? (i := 434) (by decide +kernel)), by decide +kernel⟩
theorem im_X11_undo : Cond.instanceMethod yX11_undo ∈ xT := List.mem_filter.mpr ⟨List.mem_append_right _ (List.mem_of_getElem? (i := 436) (by decide +kernel)), by decide +kernel⟩
theorem se_X11_undo : Cond.selects yX11_undo.cls yX11_undo yX11_undo ∈ xT := List.mem_filter.mpr ⟨List.mem_append_right _ (List.mem_of_getElem? (i := 437) (by decide +kernel)), by decide +kernel⟩
theorem co_X11_undo : Cond.code yX11_undo cX11_undo 1 (some .int) ∈ xT := List.mem_filter.mpr ⟨List.mem_append_right _ (List.mem_of_getElem? (i := 438) (by decide +kernel)), by decide +kernel⟩
theorem im_X3_takeBack : Cond.instanceMethod yX3_takeBack ∈ xT := List.mem_filter.mpr ⟨List.mem_append_right _ (List.mem_of_getElem? (i := 440) (by decide +kernel)), by decide +kernel⟩
theorem se_X3_takeBack : Cond.selects yX3_takeBack.cls yX3_takeBack yX3_takeBack ∈ xT := List.mem_filter.mpr ⟨List.mem_append_right _ (List.mem_of_getElem? (i := 441) (by decide +kernel)), by decide +kernel⟩
theorem co_X3_takeBack : Cond.code yX3_takeBack cX3_takeBack 4 (some .int) ∈ xT := List.mem_filter.mpr ⟨List.mem_append_right _ (List.mem_of_getElem? (i := 442) (by decide +kernel)), by decide +kernel⟩
theorem im_X3_at : Cond.instanceMethod yX3_at ∈ xT := List.mem_filter.mpr ⟨List.mem_append_right _ (List.mem_of_getElem? (i := 445) (by decide +kernel)), by decide +kernel⟩
theorem co_X3_at : Cond.code yX3_at cX3_at 2 (some (.object "PacketToll$World")) ∈ xT := List.mem_filter.mpr ⟨List.mem_append_right _ (List.mem_of_getElem? (i := 446) (by decide +kernel)), by decide +kernel⟩
theorem im_X10_copyFrom : Cond.instanceMethod yX10_copyFrom ∈ xT := List.mem_filter.mpr ⟨List.mem_append_right _ (List.mem_of_getElem? (i := 448) (by decide +kernel)), by decide +kernel⟩
theorem se_X10_copyFrom : Cond.selects yX10_copyFrom.cls yX10_copyFrom yX10_copyFrom ∈ xT := List.mem_filter.mpr ⟨List.mem_append_right _ (List.mem_of_getElem? (i := 449) (by decide +kernel)), by decide +kernel⟩
theorem co_X10_copyFrom : Cond.code yX10_copyFrom cX10_copyFrom 2 none ∈ xT := List.mem_filter.mpr ⟨List.mem_append_right _ (List.mem_of_getElem? (i := 450) (by decide +kernel)), by decide +kernel⟩
theorem im_X2_copyFrom : Cond.instanceMethod yX2_copyFrom ∈ xT := List.mem_filter.mpr ⟨List.mem_append_right _ (List.mem_of_getElem? (i := 452) (by decide +kernel)), by decide +kernel⟩
theorem se_X2_copyFrom : Cond.selects yX2_copyFrom.cls yX2_copyFrom yX2_copyFrom ∈ xT := List.mem_filter.mpr ⟨List.mem_append_right _ (List.mem_of_getElem? (i := 453) (by decide +kernel)), by decide +kernel⟩
theorem co_X2_copyFrom : Cond.code yX2_copyFrom cX2_copyFrom 2 none ∈ xT := List.mem_filter.mpr ⟨List.mem_append_right _ (List.mem_of_getElem? (i := 454) (by decide +kernel)), by decide +kernel⟩
theorem sm_X11_copyRow : Cond.static yX11_copyRow ∈ xT := List.mem_filter.mpr ⟨List.mem_append_right _ (List.mem_of_getElem? (i := 456) (by decide +kernel)), by decide +kernel⟩
theorem co_X11_copyRow : Cond.code yX11_copyRow cX11_copyRow 3 none ∈ xT := List.mem_filter.mpr ⟨List.mem_append_right _ (List.mem_of_getElem? (i := 457) (by decide +kernel)), by decide +kernel⟩
theorem im_X1_copyFrom : Cond.instanceMethod yX1_copyFrom ∈ xT := List.mem_filter.mpr ⟨List.mem_append_right _ (List.mem_of_getElem? (i := 462) (by decide +kernel)), by decide +kernel⟩
theorem se_X1_copyFrom : Cond.selects yX1_copyFrom.cls yX1_copyFrom yX1_copyFrom ∈ xT := List.mem_filter.mpr ⟨List.mem_append_right _ (List.mem_of_getElem? (i := 463) (by decide +kernel)), by decide +kernel⟩
theorem co_X1_copyFrom : Cond.code yX1_copyFrom cX1_copyFrom 2 none ∈ xT := List.mem_filter.mpr ⟨List.mem_append_right _ (List.mem_of_getElem? (i := 464) (by decide +kernel)), by decide +kernel⟩
theorem im_X4_copyFrom : Cond.instanceMethod yX4_copyFrom ∈ xT := List.mem_filter.mpr ⟨List.mem_append_right _ (List.mem_of_getElem? (i := 467) (by decide +kernel)), by decide +kernel⟩
theorem se_X4_copyFrom : Cond.selects yX4_copyFrom.cls yX4_copyFrom yX4_copyFrom ∈ xT := List.mem_filter.mpr ⟨List.mem_append_right _ (List.mem_of_getElem? (i := 468) (by decide +kernel)), by decide +kernel⟩
theorem co_X4_copyFrom : Cond.code yX4_copyFrom cX4_copyFrom 2 none ∈ xT := List.mem_filter.mpr ⟨List.mem_append_right _ (List.mem_of_getElem? (i := 469) (by decide +kernel)), by decide +kernel⟩
theorem im_X5_copyFrom : Cond.instanceMethod yX5_copyFrom ∈ xT := List.mem_filter.mpr ⟨List.mem_append_right _ (List.mem_of_getElem? (i := 472) (by decide +kernel)), by decide +kernel⟩
theorem se_X5_copyFrom : Cond.selects yX5_copyFrom.cls yX5_copyFrom yX5_copyFrom ∈ xT := List.mem_filter.mpr ⟨List.mem_append_right _ (List.mem_of_getElem? (i := 473) (by decide +kernel)), by decide +kernel⟩
theorem co_X5_copyFrom : Cond.code yX5_copyFrom cX5_copyFrom 2 none ∈ xT := List.mem_filter.mpr ⟨List.mem_append_right _ (List.mem_of_getElem? (i := 474) (by decide +kernel)), by decide +kernel⟩
theorem im_X0_copyFrom : Cond.instanceMethod yX0_copyFrom ∈ xT := List.mem_filter.mpr ⟨List.mem_append_right _ (List.mem_of_getElem? (i := 477) (by decide +kernel)), by decide +kernel⟩
theorem se_X0_copyFrom : Cond.selects yX0_copyFrom.cls yX0_copyFrom yX0_copyFrom ∈ xT := List.mem_filter.mpr ⟨List.mem_append_right _ (List.mem_of_getElem? (i := 478) (by decide +kernel)), by decide +kernel⟩
theorem co_X0_copyFrom : Cond.code yX0_copyFrom cX0_copyFrom 2 none ∈ xT := List.mem_filter.mpr ⟨List.mem_append_right _ (List.mem_of_getElem? (i := 479) (by decide +kernel)), by decide +kernel⟩
theorem im_X6_copyFrom : Cond.instanceMethod yX6_copyFrom ∈ xT := List.mem_filter.mpr ⟨List.mem_append_right _ (List.mem_of_getElem? (i := 482) (by decide +kernel)), by decide +kernel⟩
theorem se_X6_copyFrom : Cond.selects yX6_copyFrom.cls yX6_copyFrom yX6_copyFrom ∈ xT := List.mem_filter.mpr ⟨List.mem_append_right _ (List.mem_of_getElem? (i := 483) (by decide +kernel)), by decide +kernel⟩
theorem co_X6_copyFrom : Cond.code yX6_copyFrom cX6_copyFrom 2 none ∈ xT := List.mem_filter.mpr ⟨List.mem_append_right _ (List.mem_of_getElem? (i := 484) (by decide +kernel)), by decide +kernel⟩
theorem kl_L_129 : Cond.classLink RL 129 RX13 ∈ xT := List.mem_filter.mpr ⟨List.mem_append_right _ (List.mem_of_getElem? (i := 486) (by decide +kernel)), by decide +kernel⟩
theorem is_X13 : Cond.instantiable RX13 1 ∈ xT := List.mem_filter.mpr ⟨List.mem_append_right _ (List.mem_of_getElem? (i := 487) (by decide +kernel)), by decide +kernel⟩
theorem im_X13_init : Cond.instanceMethod yX13_init ∈ xT := List.mem_filter.mpr ⟨List.mem_append_right _ (List.mem_of_getElem? (i := 489) (by decide +kernel)), by decide +kernel⟩
theorem co_X13_init : Cond.code yX13_init cX13_init 2 none ∈ xT := List.mem_filter.mpr ⟨List.mem_append_right _ (List.mem_of_getElem? (i := 490) (by decide +kernel)), by decide +kernel⟩
theorem im_X13_below : Cond.instanceMethod yX13_below ∈ xT := List.mem_filter.mpr ⟨List.mem_append_right _ (List.mem_of_getElem? (i := 497) (by decide +kernel)), by decide +kernel⟩
theorem se_X13_below : Cond.selects yX13_below.cls yX13_below yX13_below ∈ xT := List.mem_filter.mpr ⟨List.mem_append_right _ (List.mem_of_getElem? (i := 498) (by decide +kernel)), by decide +kernel⟩
theorem co_X13_below : Cond.code yX13_below cX13_below 2 (some .int) ∈ xT := List.mem_filter.mpr ⟨List.mem_append_right _ (List.mem_of_getElem? (i := 499) (by decide +kernel)), by decide +kernel⟩
theorem kc_X13_13 : Cond.constant RX13 13 (Int32.ofInt (1103515245)) ∈ xT := List.mem_filter.mpr ⟨List.mem_append_right _ (List.mem_of_getElem? (i := 500) (by decide +kernel)), by decide +kernel⟩
theorem kl_L_123 : Cond.classLink RL 123 RX14 ∈ xT := List.mem_filter.mpr ⟨List.mem_append_right _ (List.mem_of_getElem? (i := 501) (by decide +kernel)), by decide +kernel⟩
theorem is_X14 : Cond.instantiable RX14 14 ∈ xT := List.mem_filter.mpr ⟨List.mem_append_right _ (List.mem_of_getElem? (i := 502) (by decide +kernel)), by decide +kernel⟩
theorem im_X14_init : Cond.instanceMethod yX14_init ∈ xT := List.mem_filter.mpr ⟨List.mem_append_right _ (List.mem_of_getElem? (i := 504) (by decide +kernel)), by decide +kernel⟩
theorem co_X14_init : Cond.code yX14_init cX14_init 1 none ∈ xT := List.mem_filter.mpr ⟨List.mem_append_right _ (List.mem_of_getElem? (i := 505) (by decide +kernel)), by decide +kernel⟩
theorem kl_X14_7 : Cond.classLink RX14 7 "[I" ∈ xT := List.mem_filter.mpr ⟨List.mem_append_right _ (List.mem_of_getElem? (i := 507) (by decide +kernel)), by decide +kernel⟩
theorem kl_X14_30 : Cond.classLink RX14 30 "[[I" ∈ xT := List.mem_filter.mpr ⟨List.mem_append_right _ (List.mem_of_getElem? (i := 509) (by decide +kernel)), by decide +kernel⟩
theorem im_X14_copy : Cond.instanceMethod yX14_copy ∈ xT := List.mem_filter.mpr ⟨List.mem_append_right _ (List.mem_of_getElem? (i := 565) (by decide +kernel)), by decide +kernel⟩
theorem se_X14_copy : Cond.selects yX14_copy.cls yX14_copy yX14_copy ∈ xT := List.mem_filter.mpr ⟨List.mem_append_right _ (List.mem_of_getElem? (i := 566) (by decide +kernel)), by decide +kernel⟩
theorem co_X14_copy : Cond.code yX14_copy cX14_copy 2 (some (.object "PacketTollLaw$Road")) ∈ xT := List.mem_filter.mpr ⟨List.mem_append_right _ (List.mem_of_getElem? (i := 567) (by decide +kernel)), by decide +kernel⟩
theorem kl_X14_10 : Cond.classLink RX14 10 RX14 ∈ xT := List.mem_filter.mpr ⟨List.mem_append_right _ (List.mem_of_getElem? (i := 568) (by decide +kernel)), by decide +kernel⟩
theorem sm_L_copied : Cond.static yL_copied ∈ xT := List.mem_filter.mpr ⟨List.mem_append_right _ (List.mem_of_getElem? (i := 571) (by decide +kernel)), by decide +kernel⟩
theorem co_L_copied : Cond.code yL_copied cL_copied 3 (some (.array (array .int)) ∈ xT := List.mem_filter.mpr ⟨List.mem_append_right _ (List.mem_of_getElem? (i := 572) (by decide +kernel)), by decide +kernel⟩
theorem kl_L_108 : Cond.classLink RL 108 "[I" ∈ xT := List.mem_filter.mpr ⟨List.mem_append_right _ (List.mem_of_getElem? (i := 573) (by decide +kernel)), by decide +kernel⟩
theorem im_X14_tick : Cond.instanceMethod yX14_tick ∈ xT := List.mem_filter.mpr ⟨List.mem_append_right _ (List.mem_of_getElem? (i := 581) (by decide +kernel)), by decide +kernel⟩
theorem se_X14_tick : Cond.selects yX14_tick.cls yX14_tick yX14_tick ∈ xT := List.mem_filter.mpr ⟨List.mem_append_right _ (List.mem_of_getElem? (i := 582) (by decide +kernel)), by decide +kernel⟩
theorem co_X14_tick : Cond.code yX14_tick cX14_tick 5 none ∈ xT := List.mem_filter.mpr ⟨List.mem_append_right _ (List.mem_of_getElem? (i := 583) (by decide +kernel)), by decide +kernel⟩
theorem sm_J9_min_7cf53 : Cond.static yJ9_min_7cf53 ∈ xT := List.mem_filter.mpr ⟨List.mem_append_right _ (List.mem_of_getElem? (i := 585) (by decide +kernel)), by decide +kernel⟩
theorem co_J9_min_7cf53 : Cond.code yJ9_min_7cf53 cJ9_min_7cf53 2 (some .int) ∈ xT := List.mem_filter.mpr ⟨List.mem_append_right _ (List.mem_of_getElem? (i := 586) (by decide +kernel)), by decide +kernel⟩
theorem sm_L_without : Cond.static yL_without ∈ xT := List.mem_filter.mpr ⟨List.mem_append_right _ (List.mem_of_getElem? (i := 588) (by decide +kernel)), by decide +kernel⟩
theorem co_L_without : Cond.code yL_without cL_without 4 (some (.array (array .int)) ∈ xT := List.mem_filter.mpr ⟨List.mem_append_right _ (List.mem_of_getElem? (i := 589) (by decide +kernel)), by decide +kernel⟩
theorem im_X14_arrives : Cond.instanceMethod yX14_arrives ∈ xT := List.mem_filter.mpr ⟨List.mem_append_right _ (List.mem_of_getElem? (i := 591) (by decide +kernel)), by decide +kernel⟩
theorem se_X14_arrives : Cond.selects yX14_arrives.cls yX14_arrives yX14_arrives ∈ xT := List.mem_filter.mpr ⟨List.mem_append_right _ (List.mem_of_getElem? (i := 592) (by decide +kernel)), by decide +kernel⟩
theorem co_X14_arrives : Cond.code yX14_arrives cX14_arrives 3 none ∈ xT := List.mem_filter.mpr ⟨List.mem_append_right _ (List.mem_of_getElem? (i := 593) (by decide +kernel)), by decide +kernel⟩
theorem im_X14_gateOf : Cond.instanceMethod yX14_gateOf ∈ xT := List.mem_filter.mpr ⟨List.mem_append_right _ (List.mem_of_getElem? (i := 595) (by decide +kernel)), by decide +kernel⟩
theorem se_X14_gateOf : Cond.selects yX14_gateOf.cls yX14_gateOf yX14_gateOf ∈ xT := List.mem_filter.mpr ⟨List.mem_append_right _ (List.mem_of_getElem? (i := 596) (by decide +kernel)), by decide +kernel⟩
theorem co_X14_gateOf : Cond.code yX14_gateOf cX14_gateOf 2 (some .int) ∈ xT := List.mem_filter.mpr ⟨List.mem_append_right _ (List.mem_of_getElem? (i := 597) (by decide +kernel)), by decide +kernel⟩
theorem im_X14_queue : Cond.instanceMethod yX14_queue ∈ xT := List.mem_filter.mpr ⟨List.mem_append_right _ (List.mem_of_getElem? (i := 599) (by decide +kernel)), by decide +kernel⟩
theorem se_X14_queue : Cond.selects yX14_queue.cls yX14_queue yX14_queue ∈ xT := List.mem_filter.mpr ⟨List.mem_append_right _ (List.mem_of_getElem? (i := 600) (by decide +kernel)), by decide +kernel⟩
theorem co_X14_queue : Cond.code yX14_queue cX14_queue 8 (some .int) ∈ xT := List.mem_filter.mpr ⟨List.mem_append_right _ (List.mem_of_getElem? (i := 601) (by decide +kernel)), by decide +kernel⟩
theorem sm_L_with : Cond.static yL_with ∈ xT := List.mem_filter.mpr ⟨List.mem_append_right _ (List.mem_of_getElem? (i := 603) (by decide +kernel)), by decide +kernel⟩
theorem co_L_with : Cond.code yL_with cL_with 4 (some (.array (array .int)) ∈ xT := List.mem_filter.mpr ⟨List.mem_append_right _ (List.mem_of_getElem? (i := 604) (by decide +kernel)), by decide +kernel⟩
theorem im_X14_passes : Cond.instanceMethod yX14_passes ∈ xT := List.mem_filter.mpr ⟨List.mem_append_right _ (List.mem_of_getElem? (i := 606) (by decide +kernel)), by decide +kernel⟩
theorem se_X14_passes : Cond.selects yX14_passes.cls yX14_passes yX14_passes ∈ xT := List.mem_filter.mpr ⟨List.mem_append_right _ (List.mem_of_getElem? (i := 607) (by decide +kernel)), by decide +kernel⟩
theorem co_X14_passes : Cond.code yX14_passes cX14_passes 12 (some .boolean) ∈ xT := List.mem_filter.mpr ⟨List.mem_append_right _ (List.mem_of_getElem? (i := 608) (by decide +kernel)), by decide +kernel⟩
theorem im_X14_first : Cond.instanceMethod yX14_first ∈ xT := List.mem_filter.mpr ⟨List.mem_append_right _ (List.mem_of_getElem? (i := 610) (by decide +kernel)), by decide +kernel⟩
theorem se_X14_first : Cond.selects yX14_first.cls yX14_first yX14_first ∈ xT := List.mem_filter.mpr ⟨List.mem_append_right _ (List.mem_of_getElem? (i := 611) (by decide +kernel)), by decide +kernel⟩
theorem co_X14_first : Cond.code yX14_first cX14_first 8 (some (.array .int)) ∈ xT := List.mem_filter.mpr ⟨List.mem_append_right _ (List.mem_of_getElem? (i := 612) (by decide +kernel)), by decide +kernel⟩
theorem im_X14_sum : Cond.instanceMethod yX14_sum ∈ xT := List.mem_filter.mpr ⟨List.mem_append_right _ (List.mem_of_getElem? (i := 614) (by decide +kernel)), by decide +kernel⟩
theorem se_X14_sum : Cond.selects yX14_sum.cls yX14_sum yX14_sum ∈ xT := List.mem_filter.mpr ⟨List.mem_append_right _ (List.mem_of_getElem? (i := 615) (by decide +kernel)), by decide +kernel⟩
theorem co_X14_sum : Cond.code yX14_sum cX14_sum 7 (some .int) ∈ xT := List.mem_filter.mpr ⟨List.mem_append_right _ (List.mem_of_getElem? (i := 616) (by decide +kernel)), by decide +kernel⟩
theorem sm_J9_max_7cf53 : Cond.static yJ9_max_7cf53 ∈ xT := List.mem_filter.mpr ⟨List.mem_append_right _ (List.mem_of_getElem? (i := 618) (by decide +kernel)), by decide +kernel⟩
theorem co_J9_max_7cf53 : Cond.code yJ9_max_7cf53 cJ9_max_7cf53 2 (some .int) ∈ xT := List.mem_filter.mpr ⟨List.mem_append_right _ (List.mem_of_getElem? (i := 619) (by decide +kernel)), by decide +kernel⟩
theorem im_X12_value : Cond.instanceMethod yX12_value ∈ xT := List.mem_filter.mpr ⟨List.mem_append_right _ (List.mem_of_getElem? (i := 621) (by decide +kernel)), by decide +kernel⟩
theorem se_X12_value : Cond.selects yX12_value.cls yX12_value yX12_value ∈ xT := List.mem_filter.mpr ⟨List.mem_append_right _ (List.mem_of_getElem? (i := 622) (by decide +kernel)), by decide +kernel⟩
theorem co_X12_value : Cond.code yX12_value cX12_value 8 (some .long) ∈ xT := List.mem_filter.mpr ⟨List.mem_append_right _ (List.mem_of_getElem? (i := 623) (by decide +kernel)), by decide +kernel⟩
theorem kc_X12_76 : Cond.constantLong RX12 76 (Int64.ofInt (-1000000)) ∈ xT := List.mem_filter.mpr ⟨List.mem_append_right _ (List.mem_of_getElem? (i := 625) (by decide +kernel)), by decide +kernel⟩
theorem kc_X12_78 : Cond.constantLong RX12 78 (Int64.ofInt (1000000)) ∈ xT := List.mem_filter.mpr ⟨List.mem_append_right _ (List.mem_of_getElem? (i := 626) (by decide +kernel)), by decide +kernel⟩
theorem sm_J9_min_f86c9 : Cond.static yJ9_min_f86c9 ∈ xT := List.mem_filter.mpr ⟨List.mem_append_right _ (List.mem_of_getElem? (i := 628) (by decide +kernel)), by decide +kernel⟩
theorem co_J9_min_f86c9 : Cond.code yJ9_min_f86c9 cJ9_min_f86c9 4 (some .long) ∈ xT := List.mem_filter.mpr ⟨List.mem_append_right _ (List.mem_of_getElem? (i := 629) (by decide +kernel)), by decide +kernel⟩
theorem sm_J9_max_f86c9 : Cond.static yJ9_max_f86c9 ∈ xT := List.mem_filter.mpr ⟨List.mem_append_right _ (List.mem_of_getElem? (i := 631) (by decide +kernel)), by decide +kernel⟩
theorem co_J9_max_f86c9 : Cond.code yJ9_max_f86c9 cJ9_max_f86c9 4 (some .long) ∈ xT := List.mem_filter.mpr ⟨List.mem_append_right _ (List.mem_of_getElem? (i := 632) (by decide +kernel)), by decide +kernel⟩
theorem kc_X14_98 : Cond.constantLong RX14 98 (Int64.ofInt (9999)) ∈ xT := List.mem_filter.mpr ⟨List.mem_append_right _ (List.mem_of_getElem? (i := 633) (by decide +kernel)), by decide +kernel⟩
theorem ac_long : Cond.arrayClass .long ∈ xT := List.mem_filter.mpr ⟨List.mem_append_right _ (List.mem_of_getElem? (i := 636) (by decide +kernel)), by decide +kernel⟩
theorem im_X14_count : Cond.instanceMethod yX14_count ∈ xT := List.mem_filter.mpr ⟨List.mem_append_right _ (List.mem_of_getElem? (i := 638) (by decide +kernel)), by decide +kernel⟩
theorem se_X14_count : Cond.selects yX14_count.cls yX14_count yX14_count ∈ xT := List.mem_filter.mpr ⟨List.mem_append_right _ (List.mem_of_getElem? (i := 639) (by decide +kernel)), by decide +kernel⟩
theorem co_X14_count : Cond.code yX14_count cX14_count 7 (some .int) ∈ xT := List.mem_filter.mpr ⟨List.mem_append_right _ (List.mem_of_getElem? (i := 640) (by decide +kernel)), by decide +kernel⟩
theorem sm_L_load : Cond.static yL_load ∈ xT := List.mem_filter.mpr ⟨List.mem_append_right _ (List.mem_of_getElem? (i := 642) (by decide +kernel)), by decide +kernel⟩
theorem kl_L_40 : Cond.classLink RL 40 "java/lang/IllegalArgumentException" ∈ xT := List.mem_filter.mpr ⟨List.mem_append_right _ (List.mem_of_getElem? (i := 644) (by decide +kernel)), by decide +kernel⟩
theorem im_X11_load : Cond.instanceMethod yX11_load ∈ xT := List.mem_filter.mpr ⟨List.mem_append_right _ (List.mem_of_getElem? (i := 646) (by decide +kernel)), by decide +kernel⟩
theorem se_X11_load : Cond.selects yX11_load.cls yX11_load yX11_load ∈ xT := List.mem_filter.mpr ⟨List.mem_append_right _ (List.mem_of_getElem? (i := 647) (by decide +kernel)), by decide +kernel⟩
theorem co_X11_load : Cond.code yX11_load cX11_load 2 (some .int) ∈ xT := List.mem_filter.mpr ⟨List.mem_append_right _ (List.mem_of_getElem? (i := 648) (by decide +kernel)), by decide +kernel⟩
theorem kl_X11_50 : Cond.classLink RX11 50 "java/lang/IllegalArgumentException" ∈ xT := List.mem_filter.mpr ⟨List.mem_append_right _ (List.mem_of_getElem? (i := 649) (by decide +kernel)), by decide +kernel⟩
theorem im_X8_read : Cond.instanceMethod yX8_read ∈ xT := List.mem_filter.mpr ⟨List.mem_append_right _ (List.mem_of_getElem? (i := 718) (by decide +kernel)), by decide +kernel⟩
theorem se_X8_read : Cond.selects yX8_read.cls yX8_read yX8_read ∈ xT := List.mem_filter.mpr ⟨List.mem_append_right _ (List.mem_of_getElem? (i := 719) (by decide +kernel)), by decide +kernel⟩
theorem co_X8_read : Cond.code yX8_read cX8_read 3 none ∈ xT := List.mem_filter.mpr ⟨List.mem_append_right _ (List.mem_of_getElem? (i := 720) (by decide +kernel)), by decide +kernel⟩
theorem im_X10_clear : Cond.instanceMethod yX10_clear ∈ xT := List.mem_filter.mpr ⟨List.mem_append_right _ (List.mem_of_getElem? (i := 722) (by decide +kernel)), by decide +kernel⟩
theorem se_X10_clear : Cond.selects yX10_clear.cls yX10_clear yX10_clear ∈ xT := List.mem_filter.mpr ⟨List.mem_append_right _ (List.mem_of_getElem? (i := 723) (by decide +kernel)), by decide +kernel⟩
theorem co_X10_clear : Cond.code yX10_clear cX10_clear 1 none ∈ xT := List.mem_filter.mpr ⟨List.mem_append_right _ (List.mem_of_getElem? (i := 724) (by decide +kernel)), by decide +kernel⟩
theorem im_X6_clear : Cond.instanceMethod yX6_clear ∈ xT := List.mem_filter.mpr ⟨List.mem_append_right _ (List.mem_of_getElem? (i := 726) (by decide +kernel)), by decide +kernel⟩
theorem se_X6_clear : Cond.selects yX6_clear.cls yX6_clear yX6_clear ∈ xT := List.mem_filter.mpr ⟨List.mem_append_right _ (List.mem_of_getElem? (i := 727) (by decide +kernel)), by decide +kernel⟩
theorem co_X6_clear : Cond.code yX6_clear cX6_clear 1 none ∈ xT := List.mem_filter.mpr ⟨List.mem_append_right _ (List.mem_of_getElem? (i := 728) (by decide +kernel)), by decide +kernel⟩
theorem im_X9_open : Cond.instanceMethod yX9_open ∈ xT := List.mem_filter.mpr ⟨List.mem_append_right _ (List.mem_of_getElem? (i := 730) (by decide +kernel)), by decide +kernel⟩
theorem se_X9_open : Cond.selects yX9_open.cls yX9_open yX9_open ∈ xT := List.mem_filter.mpr ⟨List.mem_append_right _ (List.mem_of_getElem? (i := 731) (by decide +kernel)), by decide +kernel⟩
theorem co_X9_open : Cond.code yX9_open cX9_open 2 none ∈ xT := List.mem_filter.mpr ⟨List.mem_append_right _ (List.mem_of_getElem? (i := 732) (by decide +kernel)), by decide +kernel⟩
theorem im_X9_moveOn : Cond.instanceMethod yX9_moveOn ∈ xT := List.mem_filter.mpr ⟨List.mem_append_right _ (List.mem_of_getElem? (i := 735) (by decide +kernel)), by decide +kernel⟩
theorem se_X9_moveOn : Cond.selects yX9_moveOn.cls yX9_moveOn yX9_moveOn ∈ xT := List.mem_filter.mpr ⟨List.mem_append_right _ (List.mem_of_getElem? (i := 736) (by decide +kernel)), by decide +kernel⟩
theorem co_X9_moveOn : Cond.code yX9_moveOn cX9_moveOn 1 none ∈ xT := List.mem_filter.mpr ⟨List.mem_append_right _ (List.mem_of_getElem? (i := 737) (by decide +kernel)), by decide +kernel⟩
theorem kc_X9_43 : Cond.constant RX9 43 (Int32.ofInt (100000)) ∈ xT := List.mem_filter.mpr ⟨List.mem_append_right _ (List.mem_of_getElem? (i := 738) (by decide +kernel)), by decide +kernel⟩
theorem im_X9_isWord : Cond.instanceMethod yX9_isWord ∈ xT := List.mem_filter.mpr ⟨List.mem_append_right _ (List.mem_of_getElem? (i := 741) (by decide +kernel)), by decide +kernel⟩
theorem se_X9_isWord : Cond.selects yX9_isWord.cls yX9_isWord yX9_isWord ∈ xT := List.mem_filter.mpr ⟨List.mem_append_right _ (List.mem_of_getElem? (i := 742) (by decide +kernel)), by decide +kernel⟩
theorem co_X9_isWord : Cond.code yX9_isWord cX9_isWord 3 (some .boolean) ∈ xT := List.mem_filter.mpr ⟨List.mem_append_right _ (List.mem_of_getElem? (i := 743) (by decide +kernel)), by decide +kernel⟩
theorem im_J0_length_8abf5 : Cond.instanceMethod yJ0_length_8abf5 ∈ xT := List.mem_filter.mpr ⟨List.mem_append_right _ (List.mem_of_getElem? (i := 745) (by decide +kernel)), by decide +kernel⟩
theorem se_J0_length_8abf5 : Cond.selects yJ0_length_8abf5.cls yJ0_length_8abf5 yJ0_length_8abf5 ∈ xT := List.mem_filter.mpr ⟨List.mem_append_right _ (List.mem_of_getElem? (i := 746) (by decide +kernel)), by decide +kernel⟩
theorem co_J0_length_8abf5 : Cond.code yJ0_length_8abf5 cJ0_length_8abf5 1 (some .int) ∈ xT := List.mem_filter.mpr ⟨List.mem_append_right _ (List.mem_of_getElem? (i := 747) (by decide +kernel)), by decide +kernel⟩
theorem im_J0_coder_7d493 : Cond.instanceMethod yJ0_coder_7d493 ∈ xT := List.mem_filter.mpr ⟨List.mem_append_right _ (List.mem_of_getElem? (i := 749) (by decide +kernel)), by decide +kernel⟩
theorem se_J0_coder_7d493 : Cond.selects yJ0_coder_7d493.cls yJ0_coder_7d493 yJ0_coder_7d493 ∈ xT := List.mem_filter.mpr ⟨List.mem_append_right _ (List.mem_of_getElem? (i := 750) (by decide +kernel)), by decide +kernel⟩
theorem co_J0_coder_7d493 : Cond.code yJ0_coder_7d493 cJ0_coder_7d493 1 (some .byte) ∈ xT := List.mem_filter.mpr ⟨List.mem_append_right _ (List.mem_of_getElem? (i := 751) (by decide +kernel)), by decide +kernel⟩
theorem im_J0_charAt_5068e : Cond.instanceMethod yJ0_charAt_5068e ∈ xT := List.mem_filter.mpr ⟨List.mem_append_right _ (List.mem_of_getElem? (i := 755) (by decide +kernel)), by decide +kernel⟩
theorem se_J0_charAt_5068e : Cond.selects yJ0_charAt_5068e.cls yJ0_charAt_5068e yJ0_charAt_5068e ∈ xT := List.mem_filter.mpr ⟨List.mem_append_right _ (List.mem_of_getElem? (i := 756) (by decide +kernel)), by decide +kernel⟩
theorem co_J0_charAt_5068e : Cond.code yJ0_charAt_5068e cJ0_charAt_5068e 2 (some .char) ∈ xT := List.mem_filter.mpr ⟨List.mem_append_right _ (List.mem_of_getElem? (i := 757) (by decide +kernel)), by decide +kernel⟩
theorem im_J0_isLatin1_aae02 : Cond.instanceMethod yJ0_isLatin1_aae02 ∈ xT := List.mem_filter.mpr ⟨List.mem_append_right _ (List.mem_of_getElem? (i := 759) (by decide +kernel)), by decide +kernel⟩
theorem se_J0_isLatin1_aae02 : Cond.selects yJ0_isLatin1_aae02.cls yJ0_isLatin1_aae02 yJ0_isLatin1_aae02 ∈ xT := List.mem_filter.mpr ⟨List.mem_append_right _ (List.mem_of_getElem? (i := 760) (by decide +kernel)), by decide +kernel⟩
theorem co_J0_isLatin1_aae02 : Cond.code yJ0_isLatin1_aae02 cJ0_isLatin1_aae02 1 (some .boolean) ∈ xT := List.mem_filter.mpr ⟨List.mem_append_right _ (List.mem_of_getElem? (i := 761) (by decide +kernel)), by decide +kernel⟩
theorem sm_J1_charAt_3b067 : Cond.static yJ1_charAt_3b067 ∈ xT := List.mem_filter.mpr ⟨List.mem_append_right _ (List.mem_of_getElem? (i := 763) (by decide +kernel)), by decide +kernel⟩
theorem co_J1_charAt_3b067 : Cond.code yJ1_charAt_3b067 cJ1_charAt_3b067 2 (some .char) ∈ xT := List.mem_filter.mpr ⟨List.mem_append_right _ (List.mem_of_getElem? (i := 764) (by decide +kernel)), by decide +kernel⟩
theorem sm_J0_checkIndex_df160 : Cond.static yJ0_checkIndex_df160 ∈ xT := List.mem_filter.mpr ⟨List.mem_append_right _ (List.mem_of_getElem? (i := 766) (by decide +kernel)), by decide +kernel⟩
theorem co_J0_checkIndex_df160 : Cond.code yJ0_checkIndex_df160 cJ0_checkIndex_df160 2 none ∈ xT := List.mem_filter.mpr ⟨List.mem_append_right _ (List.mem_of_getElem? (i := 767) (by decide +kernel)), by decide +kernel⟩
theorem sm_J3_checkIndex_8e157 : Cond.static yJ3_checkIndex_8e157 ∈ xT := List.mem_filter.mpr ⟨List.mem_append_right _ (List.mem_of_getElem? (i := 771) (by decide +kernel)), by decide +kernel⟩
theorem co_J3_checkIndex_8e157 : Cond.code yJ3_checkIndex_8e157 cJ3_checkIndex_8e157 3 (some .int) ∈ xT := List.mem_filter.mpr ⟨List.mem_append_right _ (List.mem_of_getElem? (i := 772) (by decide +kernel)), by decide +kernel⟩
theorem sm_J2_charAt_3b067 : Cond.static yJ2_charAt_3b067 ∈ xT := List.mem_filter.mpr ⟨List.mem_append_right _ (List.mem_of_getElem? (i := 774) (by decide +kernel)), by decide +kernel⟩
theorem co_J2_charAt_3b067 : Cond.code yJ2_charAt_3b067 cJ2_charAt_3b067 2 (some .char) ∈ xT := List.mem_filter.mpr ⟨List.mem_append_right _ (List.mem_of_getElem? (i := 775) (by decide +kernel)), by decide +kernel⟩
theorem sm_J2_checkIndex_2214a : Cond.static yJ2_checkIndex_2214a ∈ xT := List.mem_filter.mpr ⟨List.mem_append_right _ (List.mem_of_getElem? (i := 777) (by decide +kernel)), by decide +kernel⟩
theorem co_J2_checkIndex_2214a : Cond.code yJ2_checkIndex_2214a cJ2_checkIndex_2214a 2 none ∈ xT := List.mem_filter.mpr ⟨List.mem_append_right _ (List.mem_of_getElem? (i := 778) (by decide +kernel)), by decide +kernel⟩
theorem sm_J2_length_9d52b : Cond.static yJ2_length_9d52b ∈ xT := List.mem_filter.mpr ⟨List.mem_append_right _ (List.mem_of_getElem? (i := 780) (by decide +kernel)), by decide +kernel⟩
theorem co_J2_length_9d52b : Cond.code yJ2_length_9d52b cJ2_length_9d52b 1 (some .int) ∈ xT := List.mem_filter.mpr ⟨List.mem_append_right _ (List.mem_of_getElem? (i := 781) (by decide +kernel)), by decide +kernel⟩
theorem sm_J2_getChar_3b067 : Cond.static yJ2_getChar_3b067 ∈ xT := List.mem_filter.mpr ⟨List.mem_append_right _ (List.mem_of_getElem? (i := 784) (by decide +kernel)), by decide +kernel⟩
theorem co_J2_getChar_3b067 : Cond.code yJ2_getChar_3b067 cJ2_getChar_3b067 2 (some .char) ∈ xT := List.mem_filter.mpr ⟨List.mem_append_right _ (List.mem_of_getElem? (i := 785) (by decide +kernel)), by decide +kernel⟩
theorem im_X8_takeSign : Cond.instanceMethod yX8_takeSign ∈ xT := List.mem_filter.mpr ⟨List.mem_append_right _ (List.mem_of_getElem? (i := 795) (by decide +kernel)), by decide +kernel⟩
theorem co_X8_takeSign : Cond.code yX8_takeSign cX8_takeSign 2 none ∈ xT := List.mem_filter.mpr ⟨List.mem_append_right _ (List.mem_of_getElem? (i := 796) (by decide +kernel)), by decide +kernel⟩
theorem im_X8_fail : Cond.instanceMethod yX8_fail ∈ xT := List.mem_filter.mpr ⟨List.mem_append_right _ (List.mem_of_getElem? (i := 799) (by decide +kernel)), by decide +kernel⟩
theorem co_X8_fail : Cond.code yX8_fail cX8_fail 2 none ∈ xT := List.mem_filter.mpr ⟨List.mem_append_right _ (List.mem_of_getElem? (i := 800) (by decide +kernel)), by decide +kernel⟩
theorem im_X8_readStatement : Cond.instanceMethod yX8_readStatement ∈ xT := List.mem_filter.mpr ⟨List.mem_append_right _ (List.mem_of_getElem? (i := 803) (by decide +kernel)), by decide +kernel⟩
theorem co_X8_readStatement : Cond.code yX8_readStatement cX8_readStatement 1 none ∈ xT := List.mem_filter.mpr ⟨List.mem_append_right _ (List.mem_of_getElem? (i := 804) (by decide +kernel)), by decide +kernel⟩
theorem im_X8_readGate : Cond.instanceMethod yX8_readGate ∈ xT := List.mem_filter.mpr ⟨List.mem_append_right _ (List.mem_of_getElem? (i := 808) (by decide +kernel)), by decide +kernel⟩
theorem co_X8_readGate : Cond.code yX8_readGate cX8_readGate 4 none ∈ xT := List.mem_filter.mpr ⟨List.mem_append_right _ (List.mem_of_getElem? (i := 809) (by decide +kernel)), by decide +kernel⟩
theorem im_X8_takeCounted : Cond.instanceMethod yX8_takeCounted ∈ xT := List.mem_filter.mpr ⟨List.mem_append_right _ (List.mem_of_getElem? (i := 812) (by decide +kernel)), by decide +kernel⟩
theorem co_X8_takeCounted : Cond.code yX8_takeCounted cX8_takeCounted 3 none ∈ xT := List.mem_filter.mpr ⟨List.mem_append_right _ (List.mem_of_getElem? (i := 813) (by decide +kernel)), by decide +kernel⟩
theorem im_X8_takeNumber : Cond.instanceMethod yX8_takeNumber ∈ xT := List.mem_filter.mpr ⟨List.mem_append_right _ (List.mem_of_getElem? (i := 816) (by decide +kernel)), by decide +kernel⟩
theorem co_X8_takeNumber : Cond.code yX8_takeNumber cX8_takeNumber 4 (some .int) ∈ xT := List.mem_filter.mpr ⟨List.mem_append_right _ (List.mem_of_getElem? (i := 817) (by decide +kernel)), by decide +kernel⟩
theorem im_X8_numberStands : Cond.instanceMethod yX8_numberStands ∈ xT := List.mem_filter.mpr ⟨List.mem_append_right _ (List.mem_of_getElem? (i := 820) (by decide +kernel)), by decide +kernel⟩
theorem co_X8_numberStands : Cond.code yX8_numberStands cX8_numberStands 3 (some .boolean) ∈ xT := List.mem_filter.mpr ⟨List.mem_append_right _ (List.mem_of_getElem? (i := 821) (by decide +kernel)), by decide +kernel⟩
theorem im_X2_add : Cond.instanceMethod yX2_add ∈ xT := List.mem_filter.mpr ⟨List.mem_append_right _ (List.mem_of_getElem? (i := 823) (by decide +kernel)), by decide +kernel⟩
theorem se_X2_add : Cond.selects yX2_add.cls yX2_add yX2_add ∈ xT := List.mem_filter.mpr ⟨List.mem_append_right _ (List.mem_of_getElem? (i := 824) (by decide +kernel)), by decide +kernel⟩
theorem co_X2_add : Cond.code yX2_add cX2_add 4 none ∈ xT := List.mem_filter.mpr ⟨List.mem_append_right _ (List.mem_of_getElem? (i := 825) (by decide +kernel)), by decide +kernel⟩
theorem im_X8_readFlow : Cond.instanceMethod yX8_readFlow ∈ xT := List.mem_filter.mpr ⟨List.mem_append_right _ (List.mem_of_getElem? (i := 829) (by decide +kernel)), by decide +kernel⟩
theorem co_X8_readFlow : Cond.code yX8_readFlow cX8_readFlow 2 none ∈ xT := List.mem_filter.mpr ⟨List.mem_append_right _ (List.mem_of_getElem? (i := 830) (by decide +kernel)), by decide +kernel⟩
theorem im_X1_open : Cond.instanceMethod yX1_open ∈ xT := List.mem_filter.mpr ⟨List.mem_append_right _ (List.mem_of_getElem? (i := 832) (by decide +kernel)), by decide +kernel⟩
theorem se_X1_open : Cond.selects yX1_open.cls yX1_open yX1_open ∈ xT := List.mem_filter.mpr ⟨List.mem_append_right _ (List.mem_of_getElem? (i := 833) (by decide +kernel)), by decide +kernel⟩
theorem co_X1_open : Cond.code yX1_open cX1_open 1 none ∈ xT := List.mem_filter.mpr ⟨List.mem_append_right _ (List.mem_of_getElem? (i := 834) (by decide +kernel)), by decide +kernel⟩
theorem im_X8_readPlace : Cond.instanceMethod yX8_readPlace ∈ xT := List.mem_filter.mpr ⟨List.mem_append_right _ (List.mem_of_getElem? (i := 837) (by decide +kernel)), by decide +kernel⟩
theorem co_X8_readPlace : Cond.code yX8_readPlace cX8_readPlace 2 none ∈ xT := List.mem_filter.mpr ⟨List.mem_append_right _ (List.mem_of_getElem? (i := 838) (by decide +kernel)), by decide +kernel⟩
theorem im_X1_openRouteHas : Cond.instanceMethod yX1_openRouteHas ∈ xT := List.mem_filter.mpr ⟨List.mem_append_right _ (List.mem_of_getElem? (i := 840) (by decide +kernel)), by decide +kernel⟩
theorem se_X1_openRouteHas : Cond.selects yX1_openRouteHas.cls yX1_openRouteHas yX1_openRouteHas ∈ xT := List.mem_filter.mpr ⟨List.mem_append_right _ (List.mem_of_getElem? (i := 841) (by decide +kernel)), by decide +kernel⟩
theorem co_X1_openRouteHas : Cond.code yX1_openRouteHas cX1_openRouteHas 3 (some .boolean) ∈ xT := List.mem_filter.mpr ⟨List.mem_append_right _ (List.mem_of_getElem? (i := 842) (by decide +kernel)), by decide +kernel⟩
theorem im_X1_gateAt : Cond.instanceMethod yX1_gateAt ∈ xT := List.mem_filter.mpr ⟨List.mem_append_right _ (List.mem_of_getElem? (i := 844) (by decide +kernel)), by decide +kernel⟩
theorem se_X1_gateAt : Cond.selects yX1_gateAt.cls yX1_gateAt yX1_gateAt ∈ xT := List.mem_filter.mpr ⟨List.mem_append_right _ (List.mem_of_getElem? (i := 845) (by decide +kernel)), by decide +kernel⟩
theorem co_X1_gateAt : Cond.code yX1_gateAt cX1_gateAt 3 (some .int) ∈ xT := List.mem_filter.mpr ⟨List.mem_append_right _ (List.mem_of_getElem? (i := 846) (by decide +kernel)), by decide +kernel⟩
theorem im_X1_addPlace : Cond.instanceMethod yX1_addPlace ∈ xT := List.mem_filter.mpr ⟨List.mem_append_right _ (List.mem_of_getElem? (i := 848) (by decide +kernel)), by decide +kernel⟩
theorem se_X1_addPlace : Cond.selects yX1_addPlace.cls yX1_addPlace yX1_addPlace ∈ xT := List.mem_filter.mpr ⟨List.mem_append_right _ (List.mem_of_getElem? (i := 849) (by decide +kernel)), by decide +kernel⟩
theorem co_X1_addPlace : Cond.code yX1_addPlace cX1_addPlace 2 none ∈ xT := List.mem_filter.mpr ⟨List.mem_append_right _ (List.mem_of_getElem? (i := 850) (by decide +kernel)), by decide +kernel⟩
theorem im_X1_close : Cond.instanceMethod yX1_close ∈ xT := List.mem_filter.mpr ⟨List.mem_append_right _ (List.mem_of_getElem? (i := 853) (by decide +kernel)), by decide +kernel⟩
theorem se_X1_close : Cond.selects yX1_close.cls yX1_close yX1_close ∈ xT := List.mem_filter.mpr ⟨List.mem_append_right _ (List.mem_of_getElem? (i := 854) (by decide +kernel)), by decide +kernel⟩
theorem co_X1_close : Cond.code yX1_close cX1_close 2 none ∈ xT := List.mem_filter.mpr ⟨List.mem_append_right _ (List.mem_of_getElem? (i := 855) (by decide +kernel)), by decide +kernel⟩
theorem im_X8_readPacket : Cond.instanceMethod yX8_readPacket ∈ xT := List.mem_filter.mpr ⟨List.mem_append_right _ (List.mem_of_getElem? (i := 859) (by decide +kernel)), by decide +kernel⟩
theorem co_X8_readPacket : Cond.code yX8_readPacket cX8_readPacket 4 none ∈ xT := List.mem_filter.mpr ⟨List.mem_append_right _ (List.mem_of_getElem? (i := 860) (by decide +kernel)), by decide +kernel⟩
theorem im_X5_add : Cond.instanceMethod yX5_add ∈ xT := List.mem_filter.mpr ⟨List.mem_append_right _ (List.mem_of_getElem? (i := 862) (by decide +kernel)), by decide +kernel⟩
theorem se_X5_add : Cond.selects yX5_add.cls yX5_add yX5_add ∈ xT := List.mem_filter.mpr ⟨List.mem_append_right _ (List.mem_of_getElem? (i := 863) (by decide +kernel)), by decide +kernel⟩
theorem co_X5_add : Cond.code yX5_add cX5_add 4 none ∈ xT := List.mem_filter.mpr ⟨List.mem_append_right _ (List.mem_of_getElem? (i := 864) (by decide +kernel)), by decide +kernel⟩
theorem im_X8_readCoupon : Cond.instanceMethod yX8_readCoupon ∈ xT := List.mem_filter.mpr ⟨List.mem_append_right _ (List.mem_of_getElem? (i := 868) (by decide +kernel)), by decide +kernel⟩
theorem co_X8_readCoupon : Cond.code yX8_readCoupon cX8_readCoupon 4 none ∈ xT := List.mem_filter.mpr ⟨List.mem_append_right _ (List.mem_of_getElem? (i := 869) (by decide +kernel)), by decide +kernel⟩
theorem im_X0_add : Cond.instanceMethod yX0_add ∈ xT := List.mem_filter.mpr ⟨List.mem_append_right _ (List.mem_of_getElem? (i := 871) (by decide +kernel)), by decide +kernel⟩
theorem se_X0_add : Cond.selects yX0_add.cls yX0_add yX0_add ∈ xT := List.mem_filter.mpr ⟨List.mem_append_right _ (List.mem_of_getElem? (i := 872) (by decide +kernel)), by decide +kernel⟩
theorem co_X0_add : Cond.code yX0_add cX0_add 4 none ∈ xT := List.mem_filter.mpr ⟨List.mem_append_right _ (List.mem_of_getElem? (i := 873) (by decide +kernel)), by decide +kernel⟩
theorem im_X8_readSum : Cond.instanceMethod yX8_readSum ∈ xT := List.mem_filter.mpr ⟨List.mem_append_right _ (List.mem_of_getElem? (i := 879) (by decide +kernel)), by decide +kernel⟩
theorem co_X8_readSum : Cond.code yX8_readSum cX8_readSum 4 none ∈ xT := List.mem_filter.mpr ⟨List.mem_append_right _ (List.mem_of_getElem? (i := 880) (by decide +kernel)), by decide +kernel⟩
theorem im_X8_readTerm : Cond.instanceMethod yX8_readTerm ∈ xT := List.mem_filter.mpr ⟨List.mem_append_right _ (List.mem_of_getElem? (i := 883) (by decide +kernel)), by decide +kernel⟩
theorem co_X8_readTerm : Cond.code yX8_readTerm cX8_readTerm 4 none ∈ xT := List.mem_filter.mpr ⟨List.mem_append_right _ (List.mem_of_getElem? (i := 884) (by decide +kernel)), by decide +kernel⟩
theorem im_X8_readFactor : Cond.instanceMethod yX8_readFactor ∈ xT := List.mem_filter.mpr ⟨List.mem_append_right _ (List.mem_of_getElem? (i := 887) (by decide +kernel)), by decide +kernel⟩
theorem co_X8_readFactor : Cond.code yX8_readFactor cX8_readFactor 3 none ∈ xT := List.mem_filter.mpr ⟨List.mem_append_right _ (List.mem_of_getElem? (i := 888) (by decide +kernel)), by decide +kernel⟩
theorem im_X8_emit : Cond.instanceMethod yX8_emit ∈ xT := List.mem_filter.mpr ⟨List.mem_append_right _ (List.mem_of_getElem? (i := 894) (by decide +kernel)), by decide +kernel⟩
theorem co_X8_emit : Cond.code yX8_emit cX8_emit 2 none ∈ xT := List.mem_filter.mpr ⟨List.mem_append_right _ (List.mem_of_getElem? (i := 895) (by decide +kernel)), by decide +kernel⟩
theorem im_X8_isEither : Cond.instanceMethod yX8_isEither ∈ xT := List.mem_filter.mpr ⟨List.mem_append_right _ (List.mem_of_getElem? (i := 898) (by decide +kernel)), by decide +kernel⟩
theorem co_X8_isEither : Cond.code yX8_isEither cX8_isEither 3 (some .boolean) ∈ xT := List.mem_filter.mpr ⟨List.mem_append_right _ (List.mem_of_getElem? (i := 899) (by decide +kernel)), by decide +kernel⟩
theorem im_X10_clearLines : Cond.instanceMethod yX10_clearLines ∈ xT := List.mem_filter.mpr ⟨List.mem_append_right _ (List.mem_of_getElem? (i := 901) (by decide +kernel)), by decide +kernel⟩
theorem se_X10_clearLines : Cond.selects yX10_clearLines.cls yX10_clearLines yX10_clearLines ∈ xT := List.mem_filter.mpr ⟨List.mem_append_right _ (List.mem_of_getElem? (i := 902) (by decide +kernel)), by decide +kernel⟩
theorem co_X10_clearLines : Cond.code yX10_clearLines cX10_clearLines 3 none ∈ xT := List.mem_filter.mpr ⟨List.mem_append_right _ (List.mem_of_getElem? (i := 903) (by decide +kernel)), by decide +kernel⟩
theorem im_X4_clear : Cond.instanceMethod yX4_clear ∈ xT := List.mem_filter.mpr ⟨List.mem_append_right _ (List.mem_of_getElem? (i := 905) (by decide +kernel)), by decide +kernel⟩
theorem se_X4_clear : Cond.selects yX4_clear.cls yX4_clear yX4_clear ∈ xT := List.mem_filter.mpr ⟨List.mem_append_right _ (List.mem_of_getElem? (i := 906) (by decide +kernel)), by decide +kernel⟩
theorem co_X4_clear : Cond.code yX4_clear cX4_clear 3 none ∈ xT := List.mem_filter.mpr ⟨List.mem_append_right _ (List.mem_of_getElem? (i := 907) (by decide +kernel)), by decide +kernel⟩
theorem kl_X8_80 : Cond.classLink RX8 80 RX7 ∈ xT := List.mem_filter.mpr ⟨List.mem_append_right _ (List.mem_of_getElem? (i := 908) (by decide +kernel)), by decide +kernel⟩
theorem sm_J7_copyOf_59c91 : Cond.static yJ7_copyOf_59c91 ∈ xT := List.mem_filter.mpr ⟨List.mem_append_right _ (List.mem_of_getElem? (i := 910) (by decide +kernel)), by decide +kernel⟩
theorem co_J7_copyOf_59c91 : Cond.code yJ7_copyOf_59c91 cJ7_copyOf_59c91 3 (some (.array .int)) ∈ xT := List.mem_filter.mpr ⟨List.mem_append_right _ (List.mem_of_getElem? (i := 911) (by decide +kernel)), by decide +kernel⟩
theorem kl_J7_317 : Cond.classLink RJ7 317 "[I" ∈ xT := List.mem_filter.mpr ⟨List.mem_append_right _ (List.mem_of_getElem? (i := 913) (by decide +kernel)), by decide +kernel⟩
theorem im_X3_keep : Cond.instanceMethod yX3_keep ∈ xT := List.mem_filter.mpr ⟨List.mem_append_right _ (List.mem_of_getElem? (i := 918) (by decide +kernel)), by decide +kernel⟩
theorem se_X3_keep : Cond.selects yX3_keep.cls yX3_keep yX3_keep ∈ xT := List.mem_filter.mpr ⟨List.mem_append_right _ (List.mem_of_getElem? (i := 919) (by decide +kernel)), by decide +kernel⟩
theorem co_X3_keep : Cond.code yX3_keep cX3_keep 3 none ∈ xT := List.mem_filter.mpr ⟨List.mem_append_right _ (List.mem_of_getElem? (i := 920) (by decide +kernel)), by decide +kernel⟩
theorem kc_L_42 : Cond.constant RL 42 (Int32.ofInt (-2000000098)) ∈ xT := List.mem_filter.mpr ⟨List.mem_append_right _ (List.mem_of_getElem? (i := 923) (by decide +kernel)), by decide +kernel⟩
theorem sm_L_route : Cond.static yL_route ∈ xT := List.mem_filter.mpr ⟨List.mem_append_right _ (List.mem_of_getElem? (i := 925) (by decide +kernel)), by decide +kernel⟩
theorem kl_L_50 : Cond.classLink RL 50 "java/lang/IndexOutOfBoundsException" ∈ xT := List.mem_filter.mpr ⟨List.mem_append_right _ (List.mem_of_getElem? (i := 927) (by decide +kernel)), by decide +kernel⟩
theorem kl_L_59 : Cond.classLink RL 59 "java/util/NoSuchElementException" ∈ xT := List.mem_filter.mpr ⟨List.mem_append_right _ (List.mem_of_getElem? (i := 928) (by decide +kernel)), by decide +kernel⟩
theorem im_X11_route : Cond.instanceMethod yX11_route ∈ xT := List.mem_filter.mpr ⟨List.mem_append_right _ (List.mem_of_getElem? (i := 930) (by decide +kernel)), by decide +kernel⟩
theorem se_X11_route : Cond.selects yX11_route.cls yX11_route yX11_route ∈ xT := List.mem_filter.mpr ⟨List.mem_append_right _ (List.mem_of_getElem? (i := 931) (by decide +kernel)), by decide +kernel⟩
theorem co_X11_route : Cond.code yX11_route cX11_route 4 (some .int) ∈ xT := List.mem_filter.mpr ⟨List.mem_append_right _ (List.mem_of_getElem? (i := 932) (by decide +kernel)), by decide +kernel⟩
theorem im_X11_checkFlow : Cond.instanceMethod yX11_checkFlow ∈ xT := List.mem_filter.mpr ⟨List.mem_append_right _ (List.mem_of_getElem? (i := 935) (by decide +kernel)), by decide +kernel⟩
theorem co_X11_checkFlow : Cond.code yX11_checkFlow cX11_checkFlow 2 none ∈ xT := List.mem_filter.mpr ⟨List.mem_append_right _ (List.mem_of_getElem? (i := 936) (by decide +kernel)), by decide +kernel⟩
theorem kl_X11_277 : Cond.classLink RX11 277 "java/lang/IndexOutOfBoundsException" ∈ xT := List.mem_filter.mpr ⟨List.mem_append_right _ (List.mem_of_getElem? (i := 937) (by decide +kernel)), by decide +kernel⟩
theorem kl_X11_160 : Cond.classLink RX11 160 "java/util/NoSuchElementException" ∈ xT := List.mem_filter.mpr ⟨List.mem_append_right _ (List.mem_of_getElem? (i := 954) (by decide +kernel)), by decide +kernel⟩
theorem kc_L_52 : Cond.constant RL 52 (Int32.ofInt (-2000000097)) ∈ xT := List.mem_filter.mpr ⟨List.mem_append_right _ (List.mem_of_getElem? (i := 970) (by decide +kernel)), by decide +kernel⟩
theorem kc_L_61 : Cond.constant RL 61 (Int32.ofInt (-2000000100)) ∈ xT := List.mem_filter.mpr ⟨List.mem_append_right _ (List.mem_of_getElem? (i := 971) (by decide +kernel)), by decide +kernel⟩
theorem sm_L_curve : Cond.static yL_curve ∈ xT := List.mem_filter.mpr ⟨List.mem_append_right _ (List.mem_of_getElem? (i := 973) (by decide +kernel)), by decide +kernel⟩
theorem im_X11_curve : Cond.instanceMethod yX11_curve ∈ xT := List.mem_filter.mpr ⟨List.mem_append_right _ (List.mem_of_getElem? (i := 976) (by decide +kernel)), by decide +kernel⟩
theorem se_X11_curve : Cond.selects yX11_curve.cls yX11_curve yX11_curve ∈ xT := List.mem_filter.mpr ⟨List.mem_append_right _ (List.mem_of_getElem? (i := 977) (by decide +kernel)), by decide +kernel⟩
theorem co_X11_curve : Cond.code yX11_curve cX11_curve 3 (some .int) ∈ xT := List.mem_filter.mpr ⟨List.mem_append_right _ (List.mem_of_getElem? (i := 978) (by decide +kernel)), by decide +kernel⟩
theorem im_X11_checkGate : Cond.instanceMethod yX11_checkGate ∈ xT := List.mem_filter.mpr ⟨List.mem_append_right _ (List.mem_of_getElem? (i := 981) (by decide +kernel)), by decide +kernel⟩
theorem co_X11_checkGate : Cond.code yX11_checkGate cX11_checkGate 2 none ∈ xT := List.mem_filter.mpr ⟨List.mem_append_right _ (List.mem_of_getElem? (i := 982) (by decide +kernel)), by decide +kernel⟩
theorem im_X11_checkRange : Cond.instanceMethod yX11_checkRange ∈ xT := List.mem_filter.mpr ⟨List.mem_append_right _ (List.mem_of_getElem? (i := 986) (by decide +kernel)), by decide +kernel⟩
theorem co_X11_checkRange : Cond.code yX11_checkRange cX11_checkRange 4 none ∈ xT := List.mem_filter.mpr ⟨List.mem_append_right _ (List.mem_of_getElem? (i := 987) (by decide +kernel)), by decide +kernel⟩
theorem sm_L_endsAt : Cond.static yL_endsAt ∈ xT := List.mem_filter.mpr ⟨List.mem_append_right _ (List.mem_of_getElem? (i := 990) (by decide +kernel)), by decide +kernel⟩
theorem im_X11_endsAt : Cond.instanceMethod yX11_endsAt ∈ xT := List.mem_filter.mpr ⟨List.mem_append_right _ (List.mem_of_getElem? (i := 993) (by decide +kernel)), by decide +kernel⟩
theorem se_X11_endsAt : Cond.selects yX11_endsAt.cls yX11_endsAt yX11_endsAt ∈ xT := List.mem_filter.mpr ⟨List.mem_append_right _ (List.mem_of_getElem? (i := 994) (by decide +kernel)), by decide +kernel⟩
theorem co_X11_endsAt : Cond.code yX11_endsAt cX11_endsAt 2 (some .int) ∈ xT := List.mem_filter.mpr ⟨List.mem_append_right _ (List.mem_of_getElem? (i := 995) (by decide +kernel)), by decide +kernel⟩
theorem im_X11_checkPacket : Cond.instanceMethod yX11_checkPacket ∈ xT := List.mem_filter.mpr ⟨List.mem_append_right _ (List.mem_of_getElem? (i := 998) (by decide +kernel)), by decide +kernel⟩
theorem co_X11_checkPacket : Cond.code yX11_checkPacket cX11_checkPacket 2 none ∈ xT := List.mem_filter.mpr ⟨List.mem_append_right _ (List.mem_of_getElem? (i := 999) (by decide +kernel)), by decide +kernel⟩
theorem im_X5_hasEnded : Cond.instanceMethod yX5_hasEnded ∈ xT := List.mem_filter.mpr ⟨List.mem_append_right _ (List.mem_of_getElem? (i := 1002) (by decide +kernel)), by decide +kernel⟩
theorem se_X5_hasEnded : Cond.selects yX5_hasEnded.cls yX5_hasEnded yX5_hasEnded ∈ xT := List.mem_filter.mpr ⟨List.mem_append_right _ (List.mem_of_getElem? (i := 1003) (by decide +kernel)), by decide +kernel⟩
theorem co_X5_hasEnded : Cond.code yX5_hasEnded cX5_hasEnded 2 (some .boolean) ∈ xT := List.mem_filter.mpr ⟨List.mem_append_right _ (List.mem_of_getElem? (i := 1004) (by decide +kernel)), by decide +kernel⟩
theorem im_X10_advance : Cond.instanceMethod yX10_advance ∈ xT := List.mem_filter.mpr ⟨List.mem_append_right _ (List.mem_of_getElem? (i := 1006) (by decide +kernel)), by decide +kernel⟩
theorem se_X10_advance : Cond.selects yX10_advance.cls yX10_advance yX10_advance ∈ xT := List.mem_filter.mpr ⟨List.mem_append_right _ (List.mem_of_getElem? (i := 1007) (by decide +kernel)), by decide +kernel⟩
theorem co_X10_advance : Cond.code yX10_advance cX10_advance 5 none ∈ xT := List.mem_filter.mpr ⟨List.mem_append_right _ (List.mem_of_getElem? (i := 1008) (by decide +kernel)), by decide +kernel⟩
theorem im_X10_quietTicks : Cond.instanceMethod yX10_quietTicks ∈ xT := List.mem_filter.mpr ⟨List.mem_append_right _ (List.mem_of_getElem? (i := 1012) (by decide +kernel)), by decide +kernel⟩
theorem co_X10_quietTicks : Cond.code yX10_quietTicks cX10_quietTicks 5 (some .int) ∈ xT := List.mem_filter.mpr ⟨List.mem_append_right _ (List.mem_of_getElem? (i := 1013) (by decide +kernel)), by decide +kernel⟩
theorem im_X10_ticksBeforePassage : Cond.instanceMethod yX10_ticksBeforePassage ∈ xT := List.mem_filter.mpr ⟨List.mem_append_right _ (List.mem_of_getElem? (i := 1017) (by decide +kernel)), by decide +kernel⟩
theorem co_X10_ticksBeforePassage : Cond.code yX10_ticksBeforePassage cX10_ticksBeforePassage 10 (some .int) ∈ xT := List.mem_filter.mpr ⟨List.mem_append_right _ (List.mem_of_getElem? (i := 1018) (by decide +kernel)), by decide +kernel⟩
theorem im_X4_firstIn : Cond.instanceMethod yX4_firstIn ∈ xT := List.mem_filter.mpr ⟨List.mem_append_right _ (List.mem_of_getElem? (i := 1020) (by decide +kernel)), by decide +kernel⟩
theorem se_X4_firstIn : Cond.selects yX4_firstIn.cls yX4_firstIn yX4_firstIn ∈ xT := List.mem_filter.mpr ⟨List.mem_append_right _ (List.mem_of_getElem? (i := 1021) (by decide +kernel)), by decide +kernel⟩
theorem co_X4_firstIn : Cond.code yX4_firstIn cX4_firstIn 3 (some .int) ∈ xT := List.mem_filter.mpr ⟨List.mem_append_right _ (List.mem_of_getElem? (i := 1022) (by decide +kernel)), by decide +kernel⟩
theorem im_X2_ticksBefore : Cond.instanceMethod yX2_ticksBefore ∈ xT := List.mem_filter.mpr ⟨List.mem_append_right _ (List.mem_of_getElem? (i := 1024) (by decide +kernel)), by decide +kernel⟩
theorem se_X2_ticksBefore : Cond.selects yX2_ticksBefore.cls yX2_ticksBefore yX2_ticksBefore ∈ xT := List.mem_filter.mpr ⟨List.mem_append_right _ (List.mem_of_getElem? (i := 1025) (by decide +kernel)), by decide +kernel⟩
theorem co_X2_ticksBefore : Cond.code yX2_ticksBefore cX2_ticksBefore 4 (some .int) ∈ xT := List.mem_filter.mpr ⟨List.mem_append_right _ (List.mem_of_getElem? (i := 1026) (by decide +kernel)), by decide +kernel⟩
theorem kc_X2_29 : Cond.constant RX2 29 (Int32.ofInt (1000000)) ∈ xT := List.mem_filter.mpr ⟨List.mem_append_right _ (List.mem_of_getElem? (i := 1027) (by decide +kernel)), by decide +kernel⟩
theorem im_X0_sumOf : Cond.instanceMethod yX0_sumOf ∈ xT := List.mem_filter.mpr ⟨List.mem_append_right _ (List.mem_of_getElem? (i := 1029) (by decide +kernel)), by decide +kernel⟩
theorem se_X0_sumOf : Cond.selects yX0_sumOf.cls yX0_sumOf yX0_sumOf ∈ xT := List.mem_filter.mpr ⟨List.mem_append_right _ (List.mem_of_getElem? (i := 1030) (by decide +kernel)), by decide +kernel⟩
theorem co_X0_sumOf : Cond.code yX0_sumOf cX0_sumOf 4 (some .int) ∈ xT := List.mem_filter.mpr ⟨List.mem_append_right _ (List.mem_of_getElem? (i := 1031) (by decide +kernel)), by decide +kernel⟩
theorem im_X10_rest : Cond.instanceMethod yX10_rest ∈ xT := List.mem_filter.mpr ⟨List.mem_append_right _ (List.mem_of_getElem? (i := 1035) (by decide +kernel)), by decide +kernel⟩
theorem co_X10_rest : Cond.code yX10_rest cX10_rest 3 none ∈ xT := List.mem_filter.mpr ⟨List.mem_append_right _ (List.mem_of_getElem? (i := 1036) (by decide +kernel)), by decide +kernel⟩
theorem im_X10_refill : Cond.instanceMethod yX10_refill ∈ xT := List.mem_filter.mpr ⟨List.mem_append_right _ (List.mem_of_getElem? (i := 1039) (by decide +kernel)), by decide +kernel⟩
theorem co_X10_refill : Cond.code yX10_refill cX10_refill 6 none ∈ xT := List.mem_filter.mpr ⟨List.mem_append_right _ (List.mem_of_getElem? (i := 1040) (by decide +kernel)), by decide +kernel⟩
theorem im_X10_noteLack : Cond.instanceMethod yX10_noteLack ∈ xT := List.mem_filter.mpr ⟨List.mem_append_right _ (List.mem_of_getElem? (i := 1043) (by decide +kernel)), by decide +kernel⟩
theorem co_X10_noteLack : Cond.code yX10_noteLack cX10_noteLack 7 none ∈ xT := List.mem_filter.mpr ⟨List.mem_append_right _ (List.mem_of_getElem? (i := 1044) (by decide +kernel)), by decide +kernel⟩
theorem im_X10_tick : Cond.instanceMethod yX10_tick ∈ xT := List.mem_filter.mpr ⟨List.mem_append_right _ (List.mem_of_getElem? (i := 1047) (by decide +kernel)), by decide +kernel⟩
theorem co_X10_tick : Cond.code yX10_tick cX10_tick 4 none ∈ xT := List.mem_filter.mpr ⟨List.mem_append_right _ (List.mem_of_getElem? (i := 1048) (by decide +kernel)), by decide +kernel⟩
theorem im_X0_removeEnding : Cond.instanceMethod yX0_removeEnding ∈ xT := List.mem_filter.mpr ⟨List.mem_append_right _ (List.mem_of_getElem? (i := 1050) (by decide +kernel)), by decide +kernel⟩
theorem se_X0_removeEnding : Cond.selects yX0_removeEnding.cls yX0_removeEnding yX0_removeEnding ∈ xT := List.mem_filter.mpr ⟨List.mem_append_right _ (List.mem_of_getElem? (i := 1051) (by decide +kernel)), by decide +kernel⟩
theorem co_X0_removeEnding : Cond.code yX0_removeEnding cX0_removeEnding 4 (some .int) ∈ xT := List.mem_filter.mpr ⟨List.mem_append_right _ (List.mem_of_getElem? (i := 1052) (by decide +kernel)), by decide +kernel⟩
theorem im_X0_removeAt : Cond.instanceMethod yX0_removeAt ∈ xT := List.mem_filter.mpr ⟨List.mem_append_right _ (List.mem_of_getElem? (i := 1055) (by decide +kernel)), by decide +kernel⟩
theorem co_X0_removeAt : Cond.code yX0_removeAt cX0_removeAt 3 none ∈ xT := List.mem_filter.mpr ⟨List.mem_append_right _ (List.mem_of_getElem? (i := 1056) (by decide +kernel)), by decide +kernel⟩
theorem im_X10_arrive : Cond.instanceMethod yX10_arrive ∈ xT := List.mem_filter.mpr ⟨List.mem_append_right _ (List.mem_of_getElem? (i := 1059) (by decide +kernel)), by decide +kernel⟩
theorem co_X10_arrive : Cond.code yX10_arrive cX10_arrive 5 none ∈ xT := List.mem_filter.mpr ⟨List.mem_append_right _ (List.mem_of_getElem? (i := 1060) (by decide +kernel)), by decide +kernel⟩
theorem im_X4_join : Cond.instanceMethod yX4_join ∈ xT := List.mem_filter.mpr ⟨List.mem_append_right _ (List.mem_of_getElem? (i := 1063) (by decide +kernel)), by decide +kernel⟩
theorem se_X4_join : Cond.selects yX4_join.cls yX4_join yX4_join ∈ xT := List.mem_filter.mpr ⟨List.mem_append_right _ (List.mem_of_getElem? (i := 1064) (by decide +kernel)), by decide +kernel⟩
theorem co_X4_join : Cond.code yX4_join cX4_join 4 none ∈ xT := List.mem_filter.mpr ⟨List.mem_append_right _ (List.mem_of_getElem? (i := 1065) (by decide +kernel)), by decide +kernel⟩
theorem im_X10_refund : Cond.instanceMethod yX10_refund ∈ xT := List.mem_filter.mpr ⟨List.mem_append_right _ (List.mem_of_getElem? (i := 1068) (by decide +kernel)), by decide +kernel⟩
theorem co_X10_refund : Cond.code yX10_refund cX10_refund 4 none ∈ xT := List.mem_filter.mpr ⟨List.mem_append_right _ (List.mem_of_getElem? (i := 1069) (by decide +kernel)), by decide +kernel⟩
theorem im_X10_openGate : Cond.instanceMethod yX10_openGate ∈ xT := List.mem_filter.mpr ⟨List.mem_append_right _ (List.mem_of_getElem? (i := 1073) (by decide +kernel)), by decide +kernel⟩
theorem co_X10_openGate : Cond.code yX10_openGate cX10_openGate 8 none ∈ xT := List.mem_filter.mpr ⟨List.mem_append_right _ (List.mem_of_getElem? (i := 1074) (by decide +kernel)), by decide +kernel⟩
theorem im_X4_leave : Cond.instanceMethod yX4_leave ∈ xT := List.mem_filter.mpr ⟨List.mem_append_right _ (List.mem_of_getElem? (i := 1076) (by decide +kernel)), by decide +kernel⟩
theorem se_X4_leave : Cond.selects yX4_leave.cls yX4_leave yX4_leave ∈ xT := List.mem_filter.mpr ⟨List.mem_append_right _ (List.mem_of_getElem? (i := 1077) (by decide +kernel)), by decide +kernel⟩
theorem co_X4_leave : Cond.code yX4_leave cX4_leave 3 none ∈ xT := List.mem_filter.mpr ⟨List.mem_append_right _ (List.mem_of_getElem? (i := 1078) (by decide +kernel)), by decide +kernel⟩
theorem im_X10_passGate : Cond.instanceMethod yX10_passGate ∈ xT := List.mem_filter.mpr ⟨List.mem_append_right _ (List.mem_of_getElem? (i := 1082) (by decide +kernel)), by decide +kernel⟩
theorem co_X10_passGate : Cond.code yX10_passGate cX10_passGate 6 none ∈ xT := List.mem_filter.mpr ⟨List.mem_append_right _ (List.mem_of_getElem? (i := 1083) (by decide +kernel)), by decide +kernel⟩
theorem im_X0_spend : Cond.instanceMethod yX0_spend ∈ xT := List.mem_filter.mpr ⟨List.mem_append_right _ (List.mem_of_getElem? (i := 1085) (by decide +kernel)), by decide +kernel⟩
theorem se_X0_spend : Cond.selects yX0_spend.cls yX0_spend yX0_spend ∈ xT := List.mem_filter.mpr ⟨List.mem_append_right _ (List.mem_of_getElem? (i := 1086) (by decide +kernel)), by decide +kernel⟩
theorem co_X0_spend : Cond.code yX0_spend cX0_spend 6 none ∈ xT := List.mem_filter.mpr ⟨List.mem_append_right _ (List.mem_of_getElem? (i := 1087) (by decide +kernel)), by decide +kernel⟩
theorem im_X0_firstToEnd : Cond.instanceMethod yX0_firstToEnd ∈ xT := List.mem_filter.mpr ⟨List.mem_append_right _ (List.mem_of_getElem? (i := 1090) (by decide +kernel)), by decide +kernel⟩
theorem co_X0_firstToEnd : Cond.code yX0_firstToEnd cX0_firstToEnd 4 (some .int) ∈ xT := List.mem_filter.mpr ⟨List.mem_append_right _ (List.mem_of_getElem? (i := 1091) (by decide +kernel)), by decide +kernel⟩
theorem im_X7_valueFor : Cond.instanceMethod yX7_valueFor ∈ xT := List.mem_filter.mpr ⟨List.mem_append_right _ (List.mem_of_getElem? (i := 1093) (by decide +kernel)), by decide +kernel⟩
theorem se_X7_valueFor : Cond.selects yX7_valueFor.cls yX7_valueFor yX7_valueFor ∈ xT := List.mem_filter.mpr ⟨List.mem_append_right _ (List.mem_of_getElem? (i := 1094) (by decide +kernel)), by decide +kernel⟩
theorem co_X7_valueFor : Cond.code yX7_valueFor cX7_valueFor 8 (some .int) ∈ xT := List.mem_filter.mpr ⟨List.mem_append_right _ (List.mem_of_getElem? (i := 1095) (by decide +kernel)), by decide +kernel⟩
theorem sm_X7_combine : Cond.static yX7_combine ∈ xT := List.mem_filter.mpr ⟨List.mem_append_right _ (List.mem_of_getElem? (i := 1097) (by decide +kernel)), by decide +kernel⟩
theorem co_X7_combine : Cond.code yX7_combine cX7_combine 7 (some .int) ∈ xT := List.mem_filter.mpr ⟨List.mem_append_right _ (List.mem_of_getElem? (i := 1098) (by decide +kernel)), by decide +kernel⟩
theorem kc_X7_31 : Cond.constantLong RX7 31 (Int64.ofInt (-1000000)) ∈ xT := List.mem_filter.mpr ⟨List.mem_append_right _ (List.mem_of_getElem? (i := 1099) (by decide +kernel)), by decide +kernel⟩
theorem kc_X7_33 : Cond.constantLong RX7 33 (Int64.ofInt (1000000)) ∈ xT := List.mem_filter.mpr ⟨List.mem_append_right _ (List.mem_of_getElem? (i := 1100) (by decide +kernel)), by decide +kernel⟩
theorem im_X6_add : Cond.instanceMethod yX6_add ∈ xT := List.mem_filter.mpr ⟨List.mem_append_right _ (List.mem_of_getElem? (i := 1106) (by decide +kernel)), by decide +kernel⟩
theorem se_X6_add : Cond.selects yX6_add.cls yX6_add yX6_add ∈ xT := List.mem_filter.mpr ⟨List.mem_append_right _ (List.mem_of_getElem? (i := 1107) (by decide +kernel)), by decide +kernel⟩
theorem co_X6_add : Cond.code yX6_add cX6_add 7 none ∈ xT := List.mem_filter.mpr ⟨List.mem_append_right _ (List.mem_of_getElem? (i := 1108) (by decide +kernel)), by decide +kernel⟩
theorem sm_L_help : Cond.static yL_help ∈ xT := List.mem_filter.mpr ⟨List.mem_append_right _ (List.mem_of_getElem? (i := 1110) (by decide +kernel)), by decide +kernel⟩
theorem im_X11_help : Cond.instanceMethod yX11_help ∈ xT := List.mem_filter.mpr ⟨List.mem_append_right _ (List.mem_of_getElem? (i := 1113) (by decide +kernel)), by decide +kernel⟩
theorem se_X11_help : Cond.selects yX11_help.cls yX11_help yX11_help ∈ xT := List.mem_filter.mpr ⟨List.mem_append_right _ (List.mem_of_getElem? (i := 1114) (by decide +kernel)), by decide +kernel⟩
theorem co_X11_help : Cond.code yX11_help cX11_help 6 (some .int) ∈ xT := List.mem_filter.mpr ⟨List.mem_append_right _ (List.mem_of_getElem? (i := 1115) (by decide +kernel)), by decide +kernel⟩
theorem sm_L_pass : Cond.static yL_pass ∈ xT := List.mem_filter.mpr ⟨List.mem_append_right _ (List.mem_of_getElem? (i := 1119) (by decide +kernel)), by decide +kernel⟩
theorem im_X11_pass : Cond.instanceMethod yX11_pass ∈ xT := List.mem_filter.mpr ⟨List.mem_append_right _ (List.mem_of_getElem? (i := 1122) (by decide +kernel)), by decide +kernel⟩
theorem se_X11_pass : Cond.selects yX11_pass.cls yX11_pass yX11_pass ∈ xT := List.mem_filter.mpr ⟨List.mem_append_right _ (List.mem_of_getElem? (i := 1123) (by decide +kernel)), by decide +kernel⟩
theorem co_X11_pass : Cond.code yX11_pass cX11_pass 3 (some .int) ∈ xT := List.mem_filter.mpr ⟨List.mem_append_right _ (List.mem_of_getElem? (i := 1124) (by decide +kernel)), by decide +kernel⟩
theorem im_X5_countIn : Cond.instanceMethod yX5_countIn ∈ xT := List.mem_filter.mpr ⟨List.mem_append_right _ (List.mem_of_getElem? (i := 1126) (by decide +kernel)), by decide +kernel⟩
theorem se_X5_countIn : Cond.selects yX5_countIn.cls yX5_countIn yX5_countIn ∈ xT := List.mem_filter.mpr ⟨List.mem_append_right _ (List.mem_of_getElem? (i := 1127) (by decide +kernel)), by decide +kernel⟩
theorem co_X5_countIn : Cond.code yX5_countIn cX5_countIn 4 (some .int) ∈ xT := List.mem_filter.mpr ⟨List.mem_append_right _ (List.mem_of_getElem? (i := 1128) (by decide +kernel)), by decide +kernel⟩
theorem sm_L_forward : Cond.static yL_forward ∈ xT := List.mem_filter.mpr ⟨List.mem_append_right _ (List.mem_of_getElem? (i := 1130) (by decide +kernel)), by decide +kernel⟩
theorem im_X11_forward : Cond.instanceMethod yX11_forward ∈ xT := List.mem_filter.mpr ⟨List.mem_append_right _ (List.mem_of_getElem? (i := 1133) (by decide +kernel)), by decide +kernel⟩
theorem se_X11_forward : Cond.selects yX11_forward.cls yX11_forward yX11_forward ∈ xT := List.mem_filter.mpr ⟨List.mem_append_right _ (List.mem_of_getElem? (i := 1134) (by decide +kernel)), by decide +kernel⟩
theorem co_X11_forward : Cond.code yX11_forward cX11_forward 5 (some .int) ∈ xT := List.mem_filter.mpr ⟨List.mem_append_right _ (List.mem_of_getElem? (i := 1135) (by decide +kernel)), by decide +kernel⟩
theorem im_X11_checkCoupon : Cond.instanceMethod yX11_checkCoupon ∈ xT := List.mem_filter.mpr ⟨List.mem_append_right _ (List.mem_of_getElem? (i := 1138) (by decide +kernel)), by decide +kernel⟩
theorem co_X11_checkCoupon : Cond.code yX11_checkCoupon cX11_checkCoupon 2 none ∈ xT := List.mem_filter.mpr ⟨List.mem_append_right _ (List.mem_of_getElem? (i := 1139) (by decide +kernel)), by decide +kernel⟩
theorem sm_L_grant : Cond.static yL_grant ∈ xT := List.mem_filter.mpr ⟨List.mem_append_right _ (List.mem_of_getElem? (i := 1142) (by decide +kernel)), by decide +kernel⟩
theorem kl_L_99 : Cond.classLink RL 99 "java/lang/IllegalStateException" ∈ xT := List.mem_filter.mpr ⟨List.mem_append_right _ (List.mem_of_getElem? (i := 1144) (by decide +kernel)), by decide +kernel⟩
theorem im_X11_grant : Cond.instanceMethod yX11_grant ∈ xT := List.mem_filter.mpr ⟨List.mem_append_right _ (List.mem_of_getElem? (i := 1146) (by decide +kernel)), by decide +kernel⟩
theorem se_X11_grant : Cond.selects yX11_grant.cls yX11_grant yX11_grant ∈ xT := List.mem_filter.mpr ⟨List.mem_append_right _ (List.mem_of_getElem? (i := 1147) (by decide +kernel)), by decide +kernel⟩
theorem co_X11_grant : Cond.code yX11_grant cX11_grant 4 (some .int) ∈ xT := List.mem_filter.mpr ⟨List.mem_append_right _ (List.mem_of_getElem? (i := 1148) (by decide +kernel)), by decide +kernel⟩
theorem kl_X11_250 : Cond.classLink RX11 250 "java/lang/IllegalStateException" ∈ xT := List.mem_filter.mpr ⟨List.mem_append_right _ (List.mem_of_getElem? (i := 1149) (by decide +kernel)), by decide +kernel⟩
theorem kc_L_101 : Cond.constant RL 101 (Int32.ofInt (-2000000099)) ∈ xT := List.mem_filter.mpr ⟨List.mem_append_right _ (List.mem_of_getElem? (i := 1165) (by decide +kernel)), by decide +kernel⟩
theorem sm_L_send : Cond.static yL_send ∈ xT := List.mem_filter.mpr ⟨List.mem_append_right _ (List.mem_of_getElem? (i := 1167) (by decide +kernel)), by decide +kernel⟩
theorem im_X11_send : Cond.instanceMethod yX11_send ∈ xT := List.mem_filter.mpr ⟨List.mem_append_right _ (List.mem_of_getElem? (i := 1170) (by decide +kernel)), by decide +kernel⟩
theorem se_X11_send : Cond.selects yX11_send.cls yX11_send yX11_send ∈ xT := List.mem_filter.mpr ⟨List.mem_append_right _ (List.mem_of_getElem? (i := 1171) (by decide +kernel)), by decide +kernel⟩
theorem co_X11_send : Cond.code yX11_send cX11_send 3 (some .int) ∈ xT := List.mem_filter.mpr ⟨List.mem_append_right _ (List.mem_of_getElem? (i := 1172) (by decide +kernel)), by decide +kernel⟩
theorem sm_L_setThrift : Cond.static yL_setThrift ∈ xT := List.mem_filter.mpr ⟨List.mem_append_right _ (List.mem_of_getElem? (i := 1176) (by decide +kernel)), by decide +kernel⟩
theorem im_X11_setThrift : Cond.instanceMethod yX11_setThrift ∈ xT := List.mem_filter.mpr ⟨List.mem_append_right _ (List.mem_of_getElem? (i := 1179) (by decide +kernel)), by decide +kernel⟩
theorem se_X11_setThrift : Cond.selects yX11_setThrift.cls yX11_setThrift yX11_setThrift ∈ xT := List.mem_filter.mpr ⟨List.mem_append_right _ (List.mem_of_getElem? (i := 1180) (by decide +kernel)), by decide +kernel⟩
theorem co_X11_setThrift : Cond.code yX11_setThrift cX11_setThrift 4 (some .int) ∈ xT := List.mem_filter.mpr ⟨List.mem_append_right _ (List.mem_of_getElem? (i := 1181) (by decide +kernel)), by decide +kernel⟩
theorem sm_L_randomRoad : Cond.static yL_randomRoad ∈ xT := List.mem_filter.mpr ⟨List.mem_append_right _ (List.mem_of_getElem? (i := 1184) (by decide +kernel)), by decide +kernel⟩
theorem co_L_randomRoad : Cond.code yL_randomRoad cL_randomRoad 9 (some (.object "PacketTollLaw$Road")) ∈ xT := List.mem_filter.mpr ⟨List.mem_append_right _ (List.mem_of_getElem? (i := 1185) (by decide +kernel)), by decide +kernel⟩
theorem sm_L_write : Cond.static yL_write ∈ xT := List.mem_filter.mpr ⟨List.mem_append_right _ (List.mem_of_getElem? (i := 1188) (by decide +kernel)), by decide +kernel⟩
theorem co_L_write : Cond.code yL_write cL_write 4 none ∈ xT := List.mem_filter.mpr ⟨List.mem_append_right _ (List.mem_of_getElem? (i := 1189) (by decide +kernel)), by decide +kernel⟩
theorem sm_L_put : Cond.static yL_put ∈ xT := List.mem_filter.mpr ⟨List.mem_append_right _ (List.mem_of_getElem? (i := 1193) (by decide +kernel)), by decide +kernel⟩
theorem co_L_put : Cond.code yL_put cL_put 3 none ∈ xT := List.mem_filter.mpr ⟨List.mem_append_right _ (List.mem_of_getElem? (i := 1194) (by decide +kernel)), by decide +kernel⟩
theorem sm_L_flush : Cond.static yL_flush ∈ xT := List.mem_filter.mpr ⟨List.mem_append_right _ (List.mem_of_getElem? (i := 1196) (by decide +kernel)), by decide +kernel⟩
theorem co_L_flush : Cond.code yL_flush cL_flush 3 none ∈ xT := List.mem_filter.mpr ⟨List.mem_append_right _ (List.mem_of_getElem? (i := 1197) (by decide +kernel)), by decide +kernel⟩
theorem im_X11_append : Cond.instanceMethod yX11_append ∈ xT := List.mem_filter.mpr ⟨List.mem_append_right _ (List.mem_of_getElem? (i := 1199) (by decide +kernel)), by decide +kernel⟩
theorem se_X11_append : Cond.selects yX11_append.cls yX11_append yX11_append ∈ xT := List.mem_filter.mpr ⟨List.mem_append_right _ (List.mem_of_getElem? (i := 1200) (by decide +kernel)), by decide +kernel⟩
theorem co_X11_append : Cond.code yX11_append cX11_append 7 (some .int) ∈ xT := List.mem_filter.mpr ⟨List.mem_append_right _ (List.mem_of_getElem? (i := 1201) (by decide +kernel)), by decide +kernel⟩
theorem im_X9_put : Cond.instanceMethod yX9_put ∈ xT := List.mem_filter.mpr ⟨List.mem_append_right _ (List.mem_of_getElem? (i := 1203) (by decide +kernel)), by decide +kernel⟩
theorem se_X9_put : Cond.selects yX9_put.cls yX9_put yX9_put ∈ xT := List.mem_filter.mpr ⟨List.mem_append_right _ (List.mem_of_getElem? (i := 1204) (by decide +kernel)), by decide +kernel⟩
theorem co_X9_put : Cond.code yX9_put cX9_put 3 none ∈ xT := List.mem_filter.mpr ⟨List.mem_append_right _ (List.mem_of_getElem? (i := 1205) (by decide +kernel)), by decide +kernel⟩
theorem sm_L_writeNumbers : Cond.static yL_writeNumbers ∈ xT := List.mem_filter.mpr ⟨List.mem_append_right _ (List.mem_of_getElem? (i := 1208) (by decide +kernel)), by decide +kernel⟩
theorem co_L_writeNumbers : Cond.code yL_writeNumbers cL_writeNumbers 8 none ∈ xT := List.mem_filter.mpr ⟨List.mem_append_right _ (List.mem_of_getElem? (i := 1209) (by decide +kernel)), by decide +kernel⟩
theorem sm_L_writeNumber : Cond.static yL_writeNumber ∈ xT := List.mem_filter.mpr ⟨List.mem_append_right _ (List.mem_of_getElem? (i := 1212) (by decide +kernel)), by decide +kernel⟩
theorem co_L_writeNumber : Cond.code yL_writeNumber cL_writeNumber 4 none ∈ xT := List.mem_filter.mpr ⟨List.mem_append_right _ (List.mem_of_getElem? (i := 1213) (by decide +kernel)), by decide +kernel⟩
theorem sm_X12_random : Cond.static yX12_random ∈ xT := List.mem_filter.mpr ⟨List.mem_append_right _ (List.mem_of_getElem? (i := 1222) (by decide +kernel)), by decide +kernel⟩
theorem co_X12_random : Cond.code yX12_random cX12_random 3 (some (.object "PacketTollLaw$Node")) ∈ xT := List.mem_filter.mpr ⟨List.mem_append_right _ (List.mem_of_getElem? (i := 1223) (by decide +kernel)), by decide +kernel⟩
theorem kl_X12_7 : Cond.classLink RX12 7 RX12 ∈ xT := List.mem_filter.mpr ⟨List.mem_append_right _ (List.mem_of_getElem? (i := 1224) (by decide +kernel)), by decide +kernel⟩
theorem is_X12 : Cond.instantiable RX12 4 ∈ xT := List.mem_filter.mpr ⟨List.mem_append_right _ (List.mem_of_getElem? (i := 1225) (by decide +kernel)), by decide +kernel⟩
theorem im_X12_init : Cond.instanceMethod yX12_init ∈ xT := List.mem_filter.mpr ⟨List.mem_append_right _ (List.mem_of_getElem? (i := 1227) (by decide +kernel)), by decide +kernel⟩
theorem co_X12_init : Cond.code yX12_init cX12_init 1 none ∈ xT := List.mem_filter.mpr ⟨List.mem_append_right _ (List.mem_of_getElem? (i := 1228) (by decide +kernel)), by decide +kernel⟩
theorem im_X12_text : Cond.instanceMethod yX12_text ∈ xT := List.mem_filter.mpr ⟨List.mem_append_right _ (List.mem_of_getElem? (i := 1247) (by decide +kernel)), by decide +kernel⟩
theorem se_X12_text : Cond.selects yX12_text.cls yX12_text yX12_text ∈ xT := List.mem_filter.mpr ⟨List.mem_append_right _ (List.mem_of_getElem? (i := 1248) (by decide +kernel)), by decide +kernel⟩
theorem co_X12_text : Cond.code yX12_text cX12_text 4 (some (.object "java/lang/String")) ∈ xT := List.mem_filter.mpr ⟨List.mem_append_right _ (List.mem_of_getElem? (i := 1249) (by decide +kernel)), by decide +kernel⟩
theorem kl_X12_34 : Cond.classLink RX12 34 RJ4 ∈ xT := List.mem_filter.mpr ⟨List.mem_append_right _ (List.mem_of_getElem? (i := 1250) (by decide +kernel)), by decide +kernel⟩
theorem is_J4 : Cond.instantiable RJ4 4 ∈ xT := List.mem_filter.mpr ⟨List.mem_append_right _ (List.mem_of_getElem? (i := 1251) (by decide +kernel)), by decide +kernel⟩
theorem im_J4_init_da8c8 : Cond.instanceMethod yJ4_init_da8c8 ∈ xT := List.mem_filter.mpr ⟨List.mem_append_right _ (List.mem_of_getElem? (i := 1253) (by decide +kernel)), by decide +kernel⟩
theorem co_J4_init_da8c8 : Cond.code yJ4_init_da8c8 cJ4_init_da8c8 1 none ∈ xT := List.mem_filter.mpr ⟨List.mem_append_right _ (List.mem_of_getElem? (i := 1254) (by decide +kernel)), by decide +kernel⟩
theorem im_J5_init_d00df : Cond.instanceMethod yJ5_init_d00df ∈ xT := List.mem_filter.mpr ⟨List.mem_append_right _ (List.mem_of_getElem? (i := 1256) (by decide +kernel)), by decide +kernel⟩
theorem co_J5_init_d00df : Cond.code yJ5_init_d00df cJ5_init_d00df 2 none ∈ xT := List.mem_filter.mpr ⟨List.mem_append_right _ (List.mem_of_getElem? (i := 1257) (by decide +kernel)), by decide +kernel⟩
theorem sm_J2_newBytesFor_77867 : Cond.static yJ2_newBytesFor_77867 ∈ xT := List.mem_filter.mpr ⟨List.mem_append_right _ (List.mem_of_getElem? (i := 1261) (by decide +kernel)), by decide +kernel⟩
theorem co_J2_newBytesFor_77867 : Cond.code yJ2_newBytesFor_77867 cJ2_newBytesFor_77867 1 (some (.array byte)) ∈ xT := List.mem_filter.mpr ⟨List.mem_append_right _ (List.mem_of_getElem? (i := 1262) (by decide +kernel)), by decide +kernel⟩
theorem sm_J2_newBytesLength_0f7a4 : Cond.static yJ2_newBytesLength_0f7a4 ∈ xT := List.mem_filter.mpr ⟨List.mem_append_right _ (List.mem_of_getElem? (i := 1264) (by decide +kernel)), by decide +kernel⟩
theorem co_J2_newBytesLength_0f7a4 : Cond.code yJ2_newBytesLength_0f7a4 cJ2_newBytesLength_0f7a4 1 (some .int) ∈ xT := List.mem_filter.mpr ⟨List.mem_append_right _ (List.mem_of_getElem? (i := 1265) (by decide +kernel)), by decide +kernel⟩
theorem kc_J2_20 : Cond.constant RJ2 20 (Int32.ofInt (1073741823)) ∈ xT := List.mem_filter.mpr ⟨List.mem_append_right _ (List.mem_of_getElem? (i := 1266) (by decide +kernel)), by decide +kernel⟩
theorem im_J4_append_15ec4 : Cond.instanceMethod yJ4_append_15ec4 ∈ xT := List.mem_filter.mpr ⟨List.mem_append_right _ (List.mem_of_getElem? (i := 1282) (by decide +kernel)), by decide +kernel⟩
theorem se_J4_append_15ec4 : Cond.selects yJ4_append_15ec4.cls yJ4_append_15ec4 yJ4_append_15ec4 ∈ xT := List.mem_filter.mpr ⟨List.mem_append_right _ (List.mem_of_getElem? (i := 1283) (by decide +kernel)), by decide +kernel⟩
theorem co_J4_append_15ec4 : Cond.code yJ4_append_15ec4 cJ4_append_15ec4 2 (some (.object "java/lang/StringBuilder")) ∈ xT := List.mem_filter.mpr ⟨List.mem_append_right _ (List.mem_of_getElem? (i := 1284) (by decide +kernel)), by decide +kernel⟩
theorem im_J5_append_cf1ce : Cond.instanceMethod yJ5_append_cf1ce ∈ xT := List.mem_filter.mpr ⟨List.mem_append_right _ (List.mem_of_getElem? (i := 1286) (by decide +kernel)), by decide +kernel⟩
theorem co_J5_append_cf1ce : Cond.code yJ5_append_cf1ce cJ5_append_cf1ce 3 (some (.object "java/lang/AbstractStringBuilder")) ∈ xT := List.mem_filter.mpr ⟨List.mem_append_right _ (List.mem_of_getElem? (i := 1287) (by decide +kernel)), by decide +kernel⟩
theorem im_J5_appendNull_278bc : Cond.instanceMethod yJ5_appendNull_278bc ∈ xT := List.mem_filter.mpr ⟨List.mem_append_right _ (List.mem_of_getElem? (i := 1290) (by decide +kernel)), by decide +kernel⟩
theorem co_J5_appendNull_278bc : Cond.code yJ5_appendNull_278bc cJ5_appendNull_278bc 3 (some (.object "java/lang/AbstractStringBuilder")) ∈ xT := List.mem_filter.mpr ⟨List.mem_append_right _ (List.mem_of_getElem? (i := 1291) (by decide +kernel)), by decide +kernel⟩
theorem im_J5_ensureCapacityInternal_d00df : Cond.instanceMethod yJ5_ensureCapacityInternal_d00df ∈ xT := List.mem_filter.mpr ⟨List.mem_append_right _ (List.mem_of_getElem? (i := 1294) (by decide +kernel)), by decide +kernel⟩
theorem co_J5_ensureCapacityInternal_d00df : Cond.code yJ5_ensureCapacityInternal_d00df cJ5_ensureCapacityInternal_d00df 3 none ∈ xT := List.mem_filter.mpr ⟨List.mem_append_right _ (List.mem_of_getElem? (i := 1295) (by decide +kernel)), by decide +kernel⟩
theorem im_J5_newCapacity_0f7a4 : Cond.instanceMethod yJ5_newCapacity_0f7a4 ∈ xT := List.mem_filter.mpr ⟨List.mem_append_right _ (List.mem_of_getElem? (i := 1298) (by decide +kernel)), by decide +kernel⟩
theorem co_J5_newCapacity_0f7a4 : Cond.code yJ5_newCapacity_0f7a4 cJ5_newCapacity_0f7a4 6 (some .int) ∈ xT := List.mem_filter.mpr ⟨List.mem_append_right _ (List.mem_of_getElem? (i := 1299) (by decide +kernel)), by decide +kernel⟩
theorem sm_J8_newLength_cabcc : Cond.static yJ8_newLength_cabcc ∈ xT := List.mem_filter.mpr ⟨List.mem_append_right _ (List.mem_of_getElem? (i := 1301) (by decide +kernel)), by decide +kernel⟩
theorem co_J8_newLength_cabcc : Cond.code yJ8_newLength_cabcc cJ8_newLength_cabcc 4 (some .int) ∈ xT := List.mem_filter.mpr ⟨List.mem_append_right _ (List.mem_of_getElem? (i := 1302) (by decide +kernel)), by decide +kernel⟩
theorem kc_J8_200 : Cond.constant RJ8 200 (Int32.ofInt (2147483639)) ∈ xT := List.mem_filter.mpr ⟨List.mem_append_right _ (List.mem_of_getElem? (i := 1304) (by decide +kernel)), by decide +kernel⟩
theorem sm_J8_hugeLength_7cf53 : Cond.static yJ8_hugeLength_7cf53 ∈ xT := List.mem_filter.mpr ⟨List.mem_append_right _ (List.mem_of_getElem? (i := 1306) (by decide +kernel)), by decide +kernel⟩
theorem co_J8_hugeLength_7cf53 : Cond.code yJ8_hugeLength_7cf53 cJ8_hugeLength_7cf53 3 (some .int) ∈ xT := List.mem_filter.mpr ⟨List.mem_append_right _ (List.mem_of_getElem? (i := 1307) (by decide +kernel)), by decide +kernel⟩
theorem kc_J5_39 : Cond.constant RJ5 39 (Int32.ofInt (2147483647)) ∈ xT := List.mem_filter.mpr ⟨List.mem_append_right _ (List.mem_of_getElem? (i := 1308) (by decide +kernel)), by decide +kernel⟩
theorem sm_J7_copyOf_9075b : Cond.static yJ7_copyOf_9075b ∈ xT := List.mem_filter.mpr ⟨List.mem_append_right _ (List.mem_of_getElem? (i := 1310) (by decide +kernel)), by decide +kernel⟩
theorem co_J7_copyOf_9075b : Cond.code yJ7_copyOf_9075b cJ7_copyOf_9075b 3 (some (.array byte)) ∈ xT := List.mem_filter.mpr ⟨List.mem_append_right _ (List.mem_of_getElem? (i := 1311) (by decide +kernel)), by decide +kernel⟩
theorem kl_J7_311 : Cond.classLink RJ7 311 "[B" ∈ xT := List.mem_filter.mpr ⟨List.mem_append_right _ (List.mem_of_getElem? (i := 1316) (by decide +kernel)), by decide +kernel⟩
theorem im_J5_isLatin1_aae02 : Cond.instanceMethod yJ5_isLatin1_aae02 ∈ xT := List.mem_filter.mpr ⟨List.mem_append_right _ (List.mem_of_getElem? (i := 1318) (by decide +kernel)), by decide +kernel⟩
theorem co_J5_isLatin1_aae02 : Cond.code yJ5_isLatin1_aae02 cJ5_isLatin1_aae02 1 (some .boolean) ∈ xT := List.mem_filter.mpr ⟨List.mem_append_right _ (List.mem_of_getElem? (i := 1321) (by decide +kernel)), by decide +kernel⟩
theorem sm_J2_putCharsAt_cd4e5 : Cond.static yJ2_putCharsAt_cd4e5 ∈ xT := List.mem_filter.mpr ⟨List.mem_append_right _ (List.mem_of_getElem? (i := 1323) (by decide +kernel)), by decide +kernel⟩
theorem co_J2_putCharsAt_cd4e5 : Cond.code yJ2_putCharsAt_cd4e5 cJ2_putCharsAt_cd4e5 7 (some .int) ∈ xT := List.mem_filter.mpr ⟨List.mem_append_right _ (List.mem_of_getElem? (i := 1324) (by decide +kernel)), by decide +kernel⟩
theorem sm_J2_checkBoundsBeginEnd_d044e : Cond.static yJ2_checkBoundsBeginEnd_d044e ∈ xT := List.mem_filter.mpr ⟨List.mem_append_right _ (List.mem_of_getElem? (i := 1326) (by decide +kernel)), by decide +kernel⟩
theorem co_J2_checkBoundsBeginEnd_d044e : Cond.code yJ2_checkBoundsBeginEnd_d044e cJ2_checkBoundsBeginEnd_d044e 3 none ∈ xT := List.mem_filter.mpr ⟨List.mem_append_right _ (List.mem_of_getElem? (i := 1327) (by decide +kernel)), by decide +kernel⟩
theorem sm_J0_checkBoundsBeginEnd_23922 : Cond.static yJ0_checkBoundsBeginEnd_23922 ∈ xT := List.mem_filter.mpr ⟨List.mem_append_right _ (List.mem_of_getElem? (i := 1329) (by decide +kernel)), by decide +kernel⟩
theorem co_J0_checkBoundsBeginEnd_23922 : Cond.code yJ0_checkBoundsBeginEnd_23922 cJ0_checkBoundsBeginEnd_23922 3 none ∈ xT := List.mem_filter.mpr ⟨List.mem_append_right _ (List.mem_of_getElem? (i := 1330) (by decide +kernel)), by decide +kernel⟩
theorem sm_J3_checkFromToIndex_8c36e : Cond.static yJ3_checkFromToIndex_8c36e ∈ xT := List.mem_filter.mpr ⟨List.mem_append_right _ (List.mem_of_getElem? (i := 1332) (by decide +kernel)), by decide +kernel⟩
theorem co_J3_checkFromToIndex_8c36e : Cond.code yJ3_checkFromToIndex_8c36e cJ3_checkFromToIndex_8c36e 4 (some .int) ∈ xT := List.mem_filter.mpr ⟨List.mem_append_right _ (List.mem_of_getElem? (i := 1333) (by decide +kernel)), by decide +kernel⟩
theorem sm_J2_putChar_b72d1 : Cond.static yJ2_putChar_b72d1 ∈ xT := List.mem_filter.mpr ⟨List.mem_append_right _ (List.mem_of_getElem? (i := 1335) (by decide +kernel)), by decide +kernel⟩
theorem co_J2_putChar_b72d1 : Cond.code yJ2_putChar_b72d1 cJ2_putChar_b72d1 3 none ∈ xT := List.mem_filter.mpr ⟨List.mem_append_right _ (List.mem_of_getElem? (i := 1336) (by decide +kernel)), by decide +kernel⟩
theorem im_J5_putStringAt_47b60 : Cond.instanceMethod yJ5_putStringAt_47b60 ∈ xT := List.mem_filter.mpr ⟨List.mem_append_right _ (List.mem_of_getElem? (i := 1340) (by decide +kernel)), by decide +kernel⟩
theorem co_J5_putStringAt_47b60 : Cond.code yJ5_putStringAt_47b60 cJ5_putStringAt_47b60 3 none ∈ xT := List.mem_filter.mpr ⟨List.mem_append_right _ (List.mem_of_getElem? (i := 1341) (by decide +kernel)), by decide +kernel⟩
theorem im_J5_inflateIfNeededFor_a7421 : Cond.instanceMethod yJ5_inflateIfNeededFor_a7421 ∈ xT := List.mem_filter.mpr ⟨List.mem_append_right _ (List.mem_of_getElem? (i := 1344) (by decide +kernel)), by decide +kernel⟩
theorem co_J5_inflateIfNeededFor_a7421 : Cond.code yJ5_inflateIfNeededFor_a7421 cJ5_inflateIfNeededFor_a7421 2 none ∈ xT := List.mem_filter.mpr ⟨List.mem_append_right _ (List.mem_of_getElem? (i := 1345) (by decide +kernel)), by decide +kernel⟩
theorem im_J5_inflate_da8c8 : Cond.instanceMethod yJ5_inflate_da8c8 ∈ xT := List.mem_filter.mpr ⟨List.mem_append_right _ (List.mem_of_getElem? (i := 1349) (by decide +kernel)), by decide +kernel⟩
theorem co_J5_inflate_da8c8 : Cond.code yJ5_inflate_da8c8 cJ5_inflate_da8c8 2 none ∈ xT := List.mem_filter.mpr ⟨List.mem_append_right _ (List.mem_of_getElem? (i := 1350) (by decide +kernel)), by decide +kernel⟩
theorem sm_J1_inflate_0e8fd : Cond.static yJ1_inflate_0e8fd ∈ xT := List.mem_filter.mpr ⟨List.mem_append_right _ (List.mem_of_getElem? (i := 1352) (by decide +kernel)), by decide +kernel⟩
theorem co_J1_inflate_0e8fd : Cond.code yJ1_inflate_0e8fd cJ1_inflate_0e8fd 5 none ∈ xT := List.mem_filter.mpr ⟨List.mem_append_right _ (List.mem_of_getElem? (i := 1353) (by decide +kernel)), by decide +kernel⟩
theorem sm_J2_inflate_0e8fd : Cond.static yJ2_inflate_0e8fd ∈ xT := List.mem_filter.mpr ⟨List.mem_append_right _ (List.mem_of_getElem? (i := 1355) (by decide +kernel)), by decide +kernel⟩
theorem co_J2_inflate_0e8fd : Cond.code yJ2_inflate_0e8fd cJ2_inflate_0e8fd 6 none ∈ xT := List.mem_filter.mpr ⟨List.mem_append_right _ (List.mem_of_getElem? (i := 1356) (by decide +kernel)), by decide +kernel⟩
theorem sm_J2_checkBoundsOffCount_d044e : Cond.static yJ2_checkBoundsOffCount_d044e ∈ xT := List.mem_filter.mpr ⟨List.mem_append_right _ (List.mem_of_getElem? (i := 1358) (by decide +kernel)), by decide +kernel⟩
theorem co_J2_checkBoundsOffCount_d044e : Cond.code yJ2_checkBoundsOffCount_d044e cJ2_checkBoundsOffCount_d044e 3 none ∈ xT := List.mem_filter.mpr ⟨List.mem_append_right _ (List.mem_of_getElem? (i := 1359) (by decide +kernel)), by decide +kernel⟩
theorem sm_J0_checkBoundsOffCount_cabcc : Cond.static yJ0_checkBoundsOffCount_cabcc ∈ xT := List.mem_filter.mpr ⟨List.mem_append_right _ (List.mem_of_getElem? (i := 1361) (by decide +kernel)), by decide +kernel⟩
theorem co_J0_checkBoundsOffCount_cabcc : Cond.code yJ0_checkBoundsOffCount_cabcc cJ0_checkBoundsOffCount_cabcc 3 (some .int) ∈ xT := List.mem_filter.mpr ⟨List.mem_append_right _ (List.mem_of_getElem? (i := 1362) (by decide +kernel)), by decide +kernel⟩
theorem sm_J3_checkFromIndexSize_8c36e : Cond.static yJ3_checkFromIndexSize_8c36e ∈ xT := List.mem_filter.mpr ⟨List.mem_append_right _ (List.mem_of_getElem? (i := 1364) (by decide +kernel)), by decide +kernel⟩
theorem co_J3_checkFromIndexSize_8c36e : Cond.code yJ3_checkFromIndexSize_8c36e cJ3_checkFromIndexSize_8c36e 4 (some .int) ∈ xT := List.mem_filter.mpr ⟨List.mem_append_right _ (List.mem_of_getElem? (i := 1365) (by decide +kernel)), by decide +kernel⟩
theorem im_J0_getBytes_840e7 : Cond.instanceMethod yJ0_getBytes_840e7 ∈ xT := List.mem_filter.mpr ⟨List.mem_append_right _ (List.mem_of_getElem? (i := 1367) (by decide +kernel)), by decide +kernel⟩
theorem se_J0_getBytes_840e7 : Cond.selects yJ0_getBytes_840e7.cls yJ0_getBytes_840e7 yJ0_getBytes_840e7 ∈ xT := List.mem_filter.mpr ⟨List.mem_append_right _ (List.mem_of_getElem? (i := 1368) (by decide +kernel)), by decide +kernel⟩
theorem co_J0_getBytes_840e7 : Cond.code yJ0_getBytes_840e7 cJ0_getBytes_840e7 4 none ∈ xT := List.mem_filter.mpr ⟨List.mem_append_right _ (List.mem_of_getElem? (i := 1369) (by decide +kernel)), by decide +kernel⟩
theorem im_J4_append_bf812 : Cond.instanceMethod yJ4_append_bf812 ∈ xT := List.mem_filter.mpr ⟨List.mem_append_right _ (List.mem_of_getElem? (i := 1373) (by decide +kernel)), by decide +kernel⟩
theorem se_J4_append_bf812 : Cond.selects yJ4_append_bf812.cls yJ4_append_bf812 yJ4_append_bf812 ∈ xT := List.mem_filter.mpr ⟨List.mem_append_right _ (List.mem_of_getElem? (i := 1374) (by decide +kernel)), by decide +kernel⟩
theorem co_J4_append_bf812 : Cond.code yJ4_append_bf812 cJ4_append_bf812 2 (some (.object "java/lang/StringBuilder")) ∈ xT := List.mem_filter.mpr ⟨List.mem_append_right _ (List.mem_of_getElem? (i := 1375) (by decide +kernel)), by decide +kernel⟩
theorem im_J5_append_c97b9 : Cond.instanceMethod yJ5_append_c97b9 ∈ xT := List.mem_filter.mpr ⟨List.mem_append_right _ (List.mem_of_getElem? (i := 1377) (by decide +kernel)), by decide +kernel⟩
theorem co_J5_append_c97b9 : Cond.code yJ5_append_c97b9 cJ5_append_c97b9 4 (some (.object "java/lang/AbstractStringBuilder")) ∈ xT := List.mem_filter.mpr ⟨List.mem_append_right _ (List.mem_of_getElem? (i := 1378) (by decide +kernel)), by decide +kernel⟩
theorem sm_J6_stringSize_0f7a4 : Cond.static yJ6_stringSize_0f7a4 ∈ xT := List.mem_filter.mpr ⟨List.mem_append_right _ (List.mem_of_getElem? (i := 1380) (by decide +kernel)), by decide +kernel⟩
theorem co_J6_stringSize_0f7a4 : Cond.code yJ6_stringSize_0f7a4 cJ6_stringSize_0f7a4 4 (some .int) ∈ xT := List.mem_filter.mpr ⟨List.mem_append_right _ (List.mem_of_getElem? (i := 1381) (by decide +kernel)), by decide +kernel⟩
theorem sm_J6_getChars_ba4f3 : Cond.static yJ6_getChars_ba4f3 ∈ xT := List.mem_filter.mpr ⟨List.mem_append_right _ (List.mem_of_getElem? (i := 1383) (by decide +kernel)), by decide +kernel⟩
theorem co_J6_getChars_ba4f3 : Cond.code yJ6_getChars_ba4f3 cJ6_getChars_ba4f3 7 (some .int) ∈ xT := List.mem_filter.mpr ⟨List.mem_append_right _ (List.mem_of_getElem? (i := 1384) (by decide +kernel)), by decide +kernel⟩
theorem sm_J2_getChars_46870 : Cond.static yJ2_getChars_46870 ∈ xT := List.mem_filter.mpr ⟨List.mem_append_right _ (List.mem_of_getElem? (i := 1390) (by decide +kernel)), by decide +kernel⟩
theorem co_J2_getChars_46870 : Cond.code yJ2_getChars_46870 cJ2_getChars_46870 5 (some .int) ∈ xT := List.mem_filter.mpr ⟨List.mem_append_right _ (List.mem_of_getElem? (i := 1391) (by decide +kernel)), by decide +kernel⟩
theorem sm_J2_getChars_ba4f3 : Cond.static yJ2_getChars_ba4f3 ∈ xT := List.mem_filter.mpr ⟨List.mem_append_right _ (List.mem_of_getElem? (i := 1393) (by decide +kernel)), by decide +kernel⟩
theorem co_J2_getChars_ba4f3 : Cond.code yJ2_getChars_ba4f3 cJ2_getChars_ba4f3 7 (some .int) ∈ xT := List.mem_filter.mpr ⟨List.mem_append_right _ (List.mem_of_getElem? (i := 1394) (by decide +kernel)), by decide +kernel⟩
theorem im_J4_toString_0e30d : Cond.instanceMethod yJ4_toString_0e30d ∈ xT := List.mem_filter.mpr ⟨List.mem_append_right _ (List.mem_of_getElem? (i := 1398) (by decide +kernel)), by decide +kernel⟩
theorem se_J4_toString_0e30d : Cond.selects yJ4_toString_0e30d.cls yJ4_toString_0e30d yJ4_toString_0e30d ∈ xT := List.mem_filter.mpr ⟨List.mem_append_right _ (List.mem_of_getElem? (i := 1399) (by decide +kernel)), by decide +kernel⟩
theorem co_J4_toString_0e30d : Cond.code yJ4_toString_0e30d cJ4_toString_0e30d 1 (some (.object "java/lang/String")) ∈ xT := List.mem_filter.mpr ⟨List.mem_append_right _ (List.mem_of_getElem? (i := 1400) (by decide +kernel)), by decide +kernel⟩
theorem kl_J4_18 : Cond.classLink RJ4 18 RJ0 ∈ xT := List.mem_filter.mpr ⟨List.mem_append_right _ (List.mem_of_getElem? (i := 1401) (by decide +kernel)), by decide +kernel⟩
theorem is_J0 : Cond.instantiable RJ0 4 ∈ xT := List.mem_filter.mpr ⟨List.mem_append_right _ (List.mem_of_getElem? (i := 1402) (by decide +kernel)), by decide +kernel⟩
theorem im_J0_init_81219 : Cond.instanceMethod yJ0_init_81219 ∈ xT := List.mem_filter.mpr ⟨List.mem_append_right _ (List.mem_of_getElem? (i := 1404) (by decide +kernel)), by decide +kernel⟩
theorem co_J0_init_81219 : Cond.code yJ0_init_81219 cJ0_init_81219 2 none ∈ xT := List.mem_filter.mpr ⟨List.mem_append_right _ (List.mem_of_getElem? (i := 1405) (by decide +kernel)), by decide +kernel⟩
theorem im_J0_init_db425 : Cond.instanceMethod yJ0_init_db425 ∈ xT := List.mem_filter.mpr ⟨List.mem_append_right _ (List.mem_of_getElem? (i := 1407) (by decide +kernel)), by decide +kernel⟩
theorem co_J0_init_db425 : Cond.code yJ0_init_db425 cJ0_init_db425 5 none ∈ xT := List.mem_filter.mpr ⟨List.mem_append_right _ (List.mem_of_getElem? (i := 1408) (by decide +kernel)), by decide +kernel⟩
theorem im_J5_getValue_6d5f1 : Cond.instanceMethod yJ5_getValue_6d5f1 ∈ xT := List.mem_filter.mpr ⟨List.mem_append_right _ (List.mem_of_getElem? (i := 1411) (by decide +kernel)), by decide +kernel⟩
theorem co_J5_getValue_6d5f1 : Cond.code yJ5_getValue_6d5f1 cJ5_getValue_6d5f1 1 (some (.array byte)) ∈ xT := List.mem_filter.mpr ⟨List.mem_append_right _ (List.mem_of_getElem? (i := 1414) (by decide +kernel)), by decide +kernel⟩
theorem im_J5_length_8abf5 : Cond.instanceMethod yJ5_length_8abf5 ∈ xT := List.mem_filter.mpr ⟨List.mem_append_right _ (List.mem_of_getElem? (i := 1416) (by decide +kernel)), by decide +kernel⟩
theorem im_J4_length_8abf5 : Cond.instanceMethod yJ4_length_8abf5 ∈ xT := List.mem_filter.mpr ⟨List.mem_append_right _ (List.mem_of_getElem? (i := 1419) (by decide +kernel)), by decide +kernel⟩
theorem co_J4_length_8abf5 : Cond.code yJ4_length_8abf5 cJ4_length_8abf5 1 (some .int) ∈ xT := List.mem_filter.mpr ⟨List.mem_append_right _ (List.mem_of_getElem? (i := 1420) (by decide +kernel)), by decide +kernel⟩
theorem co_J5_length_8abf5 : Cond.code yJ5_length_8abf5 cJ5_length_8abf5 1 (some .int) ∈ xT := List.mem_filter.mpr ⟨List.mem_append_right _ (List.mem_of_getElem? (i := 1422) (by decide +kernel)), by decide +kernel⟩
theorem sm_J7_copyOfRange_39247 : Cond.static yJ7_copyOfRange_39247 ∈ xT := List.mem_filter.mpr ⟨List.mem_append_right _ (List.mem_of_getElem? (i := 1425) (by decide +kernel)), by decide +kernel⟩
theorem co_J7_copyOfRange_39247 : Cond.code yJ7_copyOfRange_39247 cJ7_copyOfRange_39247 3 (some (.array byte)) ∈ xT := List.mem_filter.mpr ⟨List.mem_append_right _ (List.mem_of_getElem? (i := 1426) (by decide +kernel)), by decide +kernel⟩
theorem sm_J7_copyOfRangeByte_39247 : Cond.static yJ7_copyOfRangeByte_39247 ∈ xT := List.mem_filter.mpr ⟨List.mem_append_right _ (List.mem_of_getElem? (i := 1428) (by decide +kernel)), by decide +kernel⟩
theorem co_J7_copyOfRangeByte_39247 : Cond.code yJ7_copyOfRangeByte_39247 cJ7_copyOfRangeByte_39247 5 (some (.array byte)) ∈ xT := List.mem_filter.mpr ⟨List.mem_append_right _ (List.mem_of_getElem? (i := 1429) (by decide +kernel)), by decide +kernel⟩
theorem sm_J7_checkLength_df160 : Cond.static yJ7_checkLength_df160 ∈ xT := List.mem_filter.mpr ⟨List.mem_append_right _ (List.mem_of_getElem? (i := 1431) (by decide +kernel)), by decide +kernel⟩
theorem co_J7_checkLength_df160 : Cond.code yJ7_checkLength_df160 cJ7_checkLength_df160 2 none ∈ xT := List.mem_filter.mpr ⟨List.mem_append_right _ (List.mem_of_getElem? (i := 1432) (by decide +kernel)), by decide +kernel⟩
theorem kl_J7_43 : Cond.classLink RJ7 43 "java/lang/IllegalArgumentException" ∈ xT := List.mem_filter.mpr ⟨List.mem_append_right _ (List.mem_of_getElem? (i := 1433) (by decide +kernel)), by decide +kernel⟩
theorem kl_J7_45 : Cond.classLink RJ7 45 RJ4 ∈ xT := List.mem_filter.mpr ⟨List.mem_append_right _ (List.mem_of_getElem? (i := 1434) (by decide +kernel)), by decide +kernel⟩
theorem sm_J2_compress_39247 : Cond.static yJ2_compress_39247 ∈ xT := List.mem_filter.mpr ⟨List.mem_append_right _ (List.mem_of_getElem? (i := 1442) (by decide +kernel)), by decide +kernel⟩
theorem co_J2_compress_39247 : Cond.code yJ2_compress_39247 cJ2_compress_39247 6 (some (.array byte)) ∈ xT := List.mem_filter.mpr ⟨List.mem_append_right _ (List.mem_of_getElem? (i := 1443) (by decide +kernel)), by decide +kernel⟩
theorem sm_J2_compress_5af95 : Cond.static yJ2_compress_5af95 ∈ xT := List.mem_filter.mpr ⟨List.mem_append_right _ (List.mem_of_getElem? (i := 1445) (by decide +kernel)), by decide +kernel⟩
theorem co_J2_compress_5af95 : Cond.code yJ2_compress_5af95 cJ2_compress_5af95 7 (some .int) ∈ xT := List.mem_filter.mpr ⟨List.mem_append_right _ (List.mem_of_getElem? (i := 1446) (by decide +kernel)), by decide +kernel⟩
theorem sm_J2_coderFromArrayLen_85cad : Cond.static yJ2_coderFromArrayLen_85cad ∈ xT := List.mem_filter.mpr ⟨List.mem_append_right _ (List.mem_of_getElem? (i := 1449) (by decide +kernel)), by decide +kernel⟩
theorem co_J2_coderFromArrayLen_85cad : Cond.code yJ2_coderFromArrayLen_85cad cJ2_coderFromArrayLen_85cad 2 (some .byte) ∈ xT := List.mem_filter.mpr ⟨List.mem_append_right _ (List.mem_of_getElem? (i := 1450) (by decide +kernel)), by decide +kernel⟩
theorem sm_L_loadText : Cond.static yL_loadText ∈ xT := List.mem_filter.mpr ⟨List.mem_append_right _ (List.mem_of_getElem? (i := 1473) (by decide +kernel)), by decide +kernel⟩
theorem co_L_loadText : Cond.code yL_loadText cL_loadText 3 (some .int) ∈ xT := List.mem_filter.mpr ⟨List.mem_append_right _ (List.mem_of_getElem? (i := 1474) (by decide +kernel)), by decide +kernel⟩
theorem sm_L_agrees : Cond.static yL_agrees ∈ xT := List.mem_filter.mpr ⟨List.mem_append_right _ (List.mem_of_getElem? (i := 1476) (by decide +kernel)), by decide +kernel⟩
theorem co_L_agrees : Cond.code yL_agrees cL_agrees 5 (some .boolean) ∈ xT := List.mem_filter.mpr ⟨List.mem_append_right _ (List.mem_of_getElem? (i := 1477) (by decide +kernel)), by decide +kernel⟩
theorem im_X11_checksum : Cond.instanceMethod yX11_checksum ∈ xT := List.mem_filter.mpr ⟨List.mem_append_right _ (List.mem_of_getElem? (i := 1479) (by decide +kernel)), by decide +kernel⟩
theorem se_X11_checksum : Cond.selects yX11_checksum.cls yX11_checksum yX11_checksum ∈ xT := List.mem_filter.mpr ⟨List.mem_append_right _ (List.mem_of_getElem? (i := 1480) (by decide +kernel)), by decide +kernel⟩
theorem co_X11_checksum : Cond.code yX11_checksum cX11_checksum 5 (some .long) ∈ xT := List.mem_filter.mpr ⟨List.mem_append_right _ (List.mem_of_getElem? (i := 1481) (by decide +kernel)), by decide +kernel⟩
theorem kc_X11_260 : Cond.constantLong RX11 260 (Int64.ofInt (31)) ∈ xT := List.mem_filter.mpr ⟨List.mem_append_right _ (List.mem_of_getElem? (i := 1482) (by decide +kernel)), by decide +kernel⟩
theorem im_X11_state : Cond.instanceMethod yX11_state ∈ xT := List.mem_filter.mpr ⟨List.mem_append_right _ (List.mem_of_getElem? (i := 1484) (by decide +kernel)), by decide +kernel⟩
theorem se_X11_state : Cond.selects yX11_state.cls yX11_state yX11_state ∈ xT := List.mem_filter.mpr ⟨List.mem_append_right _ (List.mem_of_getElem? (i := 1485) (by decide +kernel)), by decide +kernel⟩
theorem co_X11_state : Cond.code yX11_state cX11_state 2 (some .int) ∈ xT := List.mem_filter.mpr ⟨List.mem_append_right _ (List.mem_of_getElem? (i := 1486) (by decide +kernel)), by decide +kernel⟩
theorem im_X11_flow : Cond.instanceMethod yX11_flow ∈ xT := List.mem_filter.mpr ⟨List.mem_append_right _ (List.mem_of_getElem? (i := 1489) (by decide +kernel)), by decide +kernel⟩
theorem se_X11_flow : Cond.selects yX11_flow.cls yX11_flow yX11_flow ∈ xT := List.mem_filter.mpr ⟨List.mem_append_right _ (List.mem_of_getElem? (i := 1490) (by decide +kernel)), by decide +kernel⟩
theorem co_X11_flow : Cond.code yX11_flow cX11_flow 3 (some .int) ∈ xT := List.mem_filter.mpr ⟨List.mem_append_right _ (List.mem_of_getElem? (i := 1491) (by decide +kernel)), by decide +kernel⟩
theorem im_X0_countOf : Cond.instanceMethod yX0_countOf ∈ xT := List.mem_filter.mpr ⟨List.mem_append_right _ (List.mem_of_getElem? (i := 1493) (by decide +kernel)), by decide +kernel⟩
theorem se_X0_countOf : Cond.selects yX0_countOf.cls yX0_countOf yX0_countOf ∈ xT := List.mem_filter.mpr ⟨List.mem_append_right _ (List.mem_of_getElem? (i := 1494) (by decide +kernel)), by decide +kernel⟩
theorem co_X0_countOf : Cond.code yX0_countOf cX0_countOf 4 (some .int) ∈ xT := List.mem_filter.mpr ⟨List.mem_append_right _ (List.mem_of_getElem? (i := 1495) (by decide +kernel)), by decide +kernel⟩
theorem im_X5_deliveredSizeOf : Cond.instanceMethod yX5_deliveredSizeOf ∈ xT := List.mem_filter.mpr ⟨List.mem_append_right _ (List.mem_of_getElem? (i := 1498) (by decide +kernel)), by decide +kernel⟩
theorem se_X5_deliveredSizeOf : Cond.selects yX5_deliveredSizeOf.cls yX5_deliveredSizeOf yX5_deliveredSizeOf ∈ xT := List.mem_filter.mpr ⟨List.mem_append_right _ (List.mem_of_getElem? (i := 1499) (by decide +kernel)), by decide +kernel⟩
theorem co_X5_deliveredSizeOf : Cond.code yX5_deliveredSizeOf cX5_deliveredSizeOf 4 (some .int) ∈ xT := List.mem_filter.mpr ⟨List.mem_append_right _ (List.mem_of_getElem? (i := 1500) (by decide +kernel)), by decide +kernel⟩
theorem im_X11_packet : Cond.instanceMethod yX11_packet ∈ xT := List.mem_filter.mpr ⟨List.mem_append_right _ (List.mem_of_getElem? (i := 1502) (by decide +kernel)), by decide +kernel⟩
theorem se_X11_packet : Cond.selects yX11_packet.cls yX11_packet yX11_packet ∈ xT := List.mem_filter.mpr ⟨List.mem_append_right _ (List.mem_of_getElem? (i := 1503) (by decide +kernel)), by decide +kernel⟩
theorem co_X11_packet : Cond.code yX11_packet cX11_packet 3 (some .int) ∈ xT := List.mem_filter.mpr ⟨List.mem_append_right _ (List.mem_of_getElem? (i := 1504) (by decide +kernel)), by decide +kernel⟩
theorem im_X10_gateOf : Cond.instanceMethod yX10_gateOf ∈ xT := List.mem_filter.mpr ⟨List.mem_append_right _ (List.mem_of_getElem? (i := 1506) (by decide +kernel)), by decide +kernel⟩
theorem se_X10_gateOf : Cond.selects yX10_gateOf.cls yX10_gateOf yX10_gateOf ∈ xT := List.mem_filter.mpr ⟨List.mem_append_right _ (List.mem_of_getElem? (i := 1507) (by decide +kernel)), by decide +kernel⟩
theorem co_X10_gateOf : Cond.code yX10_gateOf cX10_gateOf 4 (some .int) ∈ xT := List.mem_filter.mpr ⟨List.mem_append_right _ (List.mem_of_getElem? (i := 1508) (by decide +kernel)), by decide +kernel⟩
theorem im_X11_coupon : Cond.instanceMethod yX11_coupon ∈ xT := List.mem_filter.mpr ⟨List.mem_append_right _ (List.mem_of_getElem? (i := 1510) (by decide +kernel)), by decide +kernel⟩
theorem se_X11_coupon : Cond.selects yX11_coupon.cls yX11_coupon yX11_coupon ∈ xT := List.mem_filter.mpr ⟨List.mem_append_right _ (List.mem_of_getElem? (i := 1511) (by decide +kernel)), by decide +kernel⟩
theorem co_X11_coupon : Cond.code yX11_coupon cX11_coupon 3 (some .int) ∈ xT := List.mem_filter.mpr ⟨List.mem_append_right _ (List.mem_of_getElem? (i := 1512) (by decide +kernel)), by decide +kernel⟩
theorem im_X11_tokens : Cond.instanceMethod yX11_tokens ∈ xT := List.mem_filter.mpr ⟨List.mem_append_right _ (List.mem_of_getElem? (i := 1514) (by decide +kernel)), by decide +kernel⟩
theorem se_X11_tokens : Cond.selects yX11_tokens.cls yX11_tokens yX11_tokens ∈ xT := List.mem_filter.mpr ⟨List.mem_append_right _ (List.mem_of_getElem? (i := 1515) (by decide +kernel)), by decide +kernel⟩
theorem co_X11_tokens : Cond.code yX11_tokens cX11_tokens 3 (some .int) ∈ xT := List.mem_filter.mpr ⟨List.mem_append_right _ (List.mem_of_getElem? (i := 1516) (by decide +kernel)), by decide +kernel⟩
theorem im_X11_queue : Cond.instanceMethod yX11_queue ∈ xT := List.mem_filter.mpr ⟨List.mem_append_right _ (List.mem_of_getElem? (i := 1518) (by decide +kernel)), by decide +kernel⟩
theorem se_X11_queue : Cond.selects yX11_queue.cls yX11_queue yX11_queue ∈ xT := List.mem_filter.mpr ⟨List.mem_append_right _ (List.mem_of_getElem? (i := 1519) (by decide +kernel)), by decide +kernel⟩
theorem co_X11_queue : Cond.code yX11_queue cX11_queue 3 (some .int) ∈ xT := List.mem_filter.mpr ⟨List.mem_append_right _ (List.mem_of_getElem? (i := 1520) (by decide +kernel)), by decide +kernel⟩
theorem im_X14_checksum : Cond.instanceMethod yX14_checksum ∈ xT := List.mem_filter.mpr ⟨List.mem_append_right _ (List.mem_of_getElem? (i := 1522) (by decide +kernel)), by decide +kernel⟩
theorem se_X14_checksum : Cond.selects yX14_checksum.cls yX14_checksum yX14_checksum ∈ xT := List.mem_filter.mpr ⟨List.mem_append_right _ (List.mem_of_getElem? (i := 1523) (by decide +kernel)), by decide +kernel⟩
theorem co_X14_checksum : Cond.code yX14_checksum cX14_checksum 11 (some .long) ∈ xT := List.mem_filter.mpr ⟨List.mem_append_right _ (List.mem_of_getElem? (i := 1524) (by decide +kernel)), by decide +kernel⟩
theorem kc_X14_127 : Cond.constantLong RX14 127 (Int64.ofInt (31)) ∈ xT := List.mem_filter.mpr ⟨List.mem_append_right _ (List.mem_of_getElem? (i := 1525) (by decide +kernel)), by decide +kernel⟩
theorem im_X14_told : Cond.instanceMethod yX14_told ∈ xT := List.mem_filter.mpr ⟨List.mem_append_right _ (List.mem_of_getElem? (i := 1527) (by decide +kernel)), by decide +kernel⟩
theorem se_X14_told : Cond.selects yX14_told.cls yX14_told yX14_told ∈ xT := List.mem_filter.mpr ⟨List.mem_append_right _ (List.mem_of_getElem? (i := 1528) (by decide +kernel)), by decide +kernel⟩
theorem co_X14_told : Cond.code yX14_told cX14_told 2 (some .int) ∈ xT := List.mem_filter.mpr ⟨List.mem_append_right _ (List.mem_of_getElem? (i := 1529) (by decide +kernel)), by decide +kernel⟩
theorem im_X14_flow : Cond.instanceMethod yX14_flow ∈ xT := List.mem_filter.mpr ⟨List.mem_append_right _ (List.mem_of_getElem? (i := 1532) (by decide +kernel)), by decide +kernel⟩
theorem se_X14_flow : Cond.selects yX14_flow.cls yX14_flow yX14_flow ∈ xT := List.mem_filter.mpr ⟨List.mem_append_right _ (List.mem_of_getElem? (i := 1533) (by decide +kernel)), by decide +kernel⟩
theorem co_X14_flow : Cond.code yX14_flow cX14_flow 8 (some .int) ∈ xT := List.mem_filter.mpr ⟨List.mem_append_right _ (List.mem_of_getElem? (i := 1534) (by decide +kernel)), by decide +kernel⟩
theorem im_X14_packet : Cond.instanceMethod yX14_packet ∈ xT := List.mem_filter.mpr ⟨List.mem_append_right _ (List.mem_of_getElem? (i := 1536) (by decide +kernel)), by decide +kernel⟩
theorem se_X14_packet : Cond.selects yX14_packet.cls yX14_packet yX14_packet ∈ xT := List.mem_filter.mpr ⟨List.mem_append_right _ (List.mem_of_getElem? (i := 1537) (by decide +kernel)), by decide +kernel⟩
theorem co_X14_packet : Cond.code yX14_packet cX14_packet 4 (some .int) ∈ xT := List.mem_filter.mpr ⟨List.mem_append_right _ (List.mem_of_getElem? (i := 1538) (by decide +kernel)), by decide +kernel⟩
theorem sm_L_state : Cond.static yL_state ∈ xT := List.mem_filter.mpr ⟨List.mem_append_right _ (List.mem_of_getElem? (i := 1540) (by decide +kernel)), by decide +kernel⟩
theorem sm_L_flow : Cond.static yL_flow ∈ xT := List.mem_filter.mpr ⟨List.mem_append_right _ (List.mem_of_getElem? (i := 1545) (by decide +kernel)), by decide +kernel⟩
theorem sm_L_packet : Cond.static yL_packet ∈ xT := List.mem_filter.mpr ⟨List.mem_append_right _ (List.mem_of_getElem? (i := 1550) (by decide +kernel)), by decide +kernel⟩
theorem sm_L_coupon : Cond.static yL_coupon ∈ xT := List.mem_filter.mpr ⟨List.mem_append_right _ (List.mem_of_getElem? (i := 1555) (by decide +kernel)), by decide +kernel⟩
theorem sm_L_tokens : Cond.static yL_tokens ∈ xT := List.mem_filter.mpr ⟨List.mem_append_right _ (List.mem_of_getElem? (i := 1559) (by decide +kernel)), by decide +kernel⟩
theorem sm_L_queue : Cond.static yL_queue ∈ xT := List.mem_filter.mpr ⟨List.mem_append_right _ (List.mem_of_getElem? (i := 1563) (by decide +kernel)), by decide +kernel⟩
theorem sm_L_gate : Cond.static yL_gate ∈ xT := List.mem_filter.mpr ⟨List.mem_append_right _ (List.mem_of_getElem? (i := 1568) (by decide +kernel)), by decide +kernel⟩
theorem im_X11_gate : Cond.instanceMethod yX11_gate ∈ xT := List.mem_filter.mpr ⟨List.mem_append_right _ (List.mem_of_getElem? (i := 1571) (by decide +kernel)), by decide +kernel⟩
theorem se_X11_gate : Cond.selects yX11_gate.cls yX11_gate yX11_gate ∈ xT := List.mem_filter.mpr ⟨List.mem_append_right _ (List.mem_of_getElem? (i := 1572) (by decide +kernel)), by decide +kernel⟩
theorem co_X11_gate : Cond.code yX11_gate cX11_gate 3 (some .int) ∈ xT := List.mem_filter.mpr ⟨List.mem_append_right _ (List.mem_of_getElem? (i := 1573) (by decide +kernel)), by decide +kernel⟩
theorem se_X3_at : Cond.selects yX3_at.cls yX3_at yX3_at ∈ xT := List.mem_filter.mpr ⟨List.mem_append_left _ (List.mem_of_getElem? (i := 0) (by decide +kernel)), by decide +kernel⟩
theorem se_X8_takeSign : Cond.selects yX8_takeSign.cls yX8_takeSign yX8_takeSign ∈ xT := List.mem_filter.mpr ⟨List.mem_append_left _ (List.mem_of_getElem? (i := 2) (by decide +kernel)), by decide +kernel⟩
theorem se_X8_fail : Cond.selects yX8_fail.cls yX8_fail yX8_fail ∈ xT := List.mem_filter.mpr ⟨List.mem_append_left _ (List.mem_of_getElem? (i := 3) (by decide +kernel)), by decide +kernel⟩
theorem se_X8_readStatement : Cond.selects yX8_readStatement.cls yX8_readStatement yX8_readStatement ∈ xT := List.mem_filter.mpr ⟨List.mem_append_left _ (List.mem_of_getElem? (i := 4) (by decide +kernel)), by decide +kernel⟩
theorem se_X8_readGate : Cond.selects yX8_readGate.cls yX8_readGate yX8_readGate ∈ xT := List.mem_filter.mpr ⟨List.mem_append_left _ (List.mem_of_getElem? (i := 5) (by decide +kernel)), by decide +kernel⟩
theorem se_X8_takeCounted : Cond.selects yX8_takeCounted.cls yX8_takeCounted yX8_takeCounted ∈ xT := List.mem_filter.mpr ⟨List.mem_append_left _ (List.mem_of_getElem? (i := 6) (by decide +kernel)), by decide +kernel⟩
theorem se_X8_takeNumber : Cond.selects yX8_takeNumber.cls yX8_takeNumber yX8_takeNumber ∈ xT := List.mem_filter.mpr ⟨List.mem_append_left _ (List.mem_of_getElem? (i := 7) (by decide +kernel)), by decide +kernel⟩
theorem se_X8_numberStands : Cond.selects yX8_numberStands.cls yX8_numberStands yX8_numberStands ∈ xT := List.mem_filter.mpr ⟨List.mem_append_left _ (List.mem_of_getElem? (i := 8) (by decide +kernel)), by decide +kernel⟩
theorem se_X8_readFlow : Cond.selects yX8_readFlow.cls yX8_readFlow yX8_readFlow ∈ xT := List.mem_filter.mpr ⟨List.mem_append_left _ (List.mem_of_getElem? (i := 9) (by decide +kernel)), by decide +kernel⟩
theorem se_X8_readPlace : Cond.selects yX8_readPlace.cls yX8_readPlace yX8_readPlace ∈ xT := List.mem_filter.mpr ⟨List.mem_append_left _ (List.mem_of_getElem? (i := 10) (by decide +kernel)), by decide +kernel⟩
theorem se_X8_readPacket : Cond.selects yX8_readPacket.cls yX8_readPacket yX8_readPacket ∈ xT := List.mem_filter.mpr ⟨List.mem_append_left _ (List.mem_of_getElem? (i := 11) (by decide +kernel)), by decide +kernel⟩
theorem se_X8_readCoupon : Cond.selects yX8_readCoupon.cls yX8_readCoupon yX8_readCoupon ∈ xT := List.mem_filter.mpr ⟨List.mem_append_left _ (List.mem_of_getElem? (i := 12) (by decide +kernel)), by decide +kernel⟩
theorem se_X8_readSum : Cond.selects yX8_readSum.cls yX8_readSum yX8_readSum ∈ xT := List.mem_filter.mpr ⟨List.mem_append_left _ (List.mem_of_getElem? (i := 13) (by decide +kernel)), by decide +kernel⟩
theorem se_X8_readTerm : Cond.selects yX8_readTerm.cls yX8_readTerm yX8_readTerm ∈ xT := List.mem_filter.mpr ⟨List.mem_append_left _ (List.mem_of_getElem? (i := 14) (by decide +kernel)), by decide +kernel⟩
theorem se_X8_readFactor : Cond.selects yX8_readFactor.cls yX8_readFactor yX8_readFactor ∈ xT := List.mem_filter.mpr ⟨List.mem_append_left _ (List.mem_of_getElem? (i := 15) (by decide +kernel)), by decide +kernel⟩
theorem se_X8_emit : Cond.selects yX8_emit.cls yX8_emit yX8_emit ∈ xT := List.mem_filter.mpr ⟨List.mem_append_left _ (List.mem_of_getElem? (i := 16) (by decide +kernel)), by decide +kernel⟩
theorem se_X8_isEither : Cond.selects yX8_isEither.cls yX8_isEither yX8_isEither ∈ xT := List.mem_filter.mpr ⟨List.mem_append_left _ (List.mem_of_getElem? (i := 17) (by decide +kernel)), by decide +kernel⟩
theorem se_X11_checkFlow : Cond.selects yX11_checkFlow.cls yX11_checkFlow yX11_checkFlow ∈ xT := List.mem_filter.mpr ⟨List.mem_append_left _ (List.mem_of_getElem? (i := 18) (by decide +kernel)), by decide +kernel⟩
theorem se_X11_checkGate : Cond.selects yX11_checkGate.cls yX11_checkGate yX11_checkGate ∈ xT := List.mem_filter.mpr ⟨List.mem_append_left _ (List.mem_of_getElem? (i := 19) (by decide +kernel)), by decide +kernel⟩
theorem se_X11_checkRange : Cond.selects yX11_checkRange.cls yX11_checkRange yX11_checkRange ∈ xT := List.mem_filter.mpr ⟨List.mem_append_left _ (List.mem_of_getElem? (i := 20) (by decide +kernel)), by decide +kernel⟩
theorem se_X11_checkPacket : Cond.selects yX11_checkPacket.cls yX11_checkPacket yX11_checkPacket ∈ xT := List.mem_filter.mpr ⟨List.mem_append_left _ (List.mem_of_getElem? (i := 21) (by decide +kernel)), by decide +kernel⟩
theorem se_X10_quietTicks : Cond.selects yX10_quietTicks.cls yX10_quietTicks yX10_quietTicks ∈ xT := List.mem_filter.mpr ⟨List.mem_append_left _ (List.mem_of_getElem? (i := 22) (by decide +kernel)), by decide +kernel⟩
theorem se_X10_ticksBeforePassage : Cond.selects yX10_ticksBeforePassage.cls yX10_ticksBeforePassage yX10_ticksBeforePassage ∈ xT := List.mem_filter.mpr ⟨List.mem_append_left _ (List.mem_of_getElem? (i := 23) (by decide +kernel)), by decide +kernel⟩
theorem se_X10_rest : Cond.selects yX10_rest.cls yX10_rest yX10_rest ∈ xT := List.mem_filter.mpr ⟨List.mem_append_left _ (List.mem_of_getElem? (i := 24) (by decide +kernel)), by decide +kernel⟩
theorem se_X10_refill : Cond.selects yX10_refill.cls yX10_refill yX10_refill ∈ xT := List.mem_filter.mpr ⟨List.mem_append_left _ (List.mem_of_getElem? (i := 25) (by decide +kernel)), by decide +kernel⟩
theorem se_X10_noteLack : Cond.selects yX10_noteLack.cls yX10_noteLack yX10_noteLack ∈ xT := List.mem_filter.mpr ⟨List.mem_append_left _ (List.mem_of_getElem? (i := 26) (by decide +kernel)), by decide +kernel⟩
theorem se_X10_tick : Cond.selects yX10_tick.cls yX10_tick yX10_tick ∈ xT := List.mem_filter.mpr ⟨List.mem_append_left _ (List.mem_of_getElem? (i := 27) (by decide +kernel)), by decide +kernel⟩
theorem se_X0_removeAt : Cond.selects yX0_removeAt.cls yX0_removeAt yX0_removeAt ∈ xT := List.mem_filter.mpr ⟨List.mem_append_left _ (List.mem_of_getElem? (i := 28) (by decide +kernel)), by decide +kernel⟩
theorem se_X10_arrive : Cond.selects yX10_arrive.cls yX10_arrive yX10_arrive ∈ xT := List.mem_filter.mpr ⟨List.mem_append_left _ (List.mem_of_getElem? (i := 29) (by decide +kernel)), by decide +kernel⟩
theorem se_X10_refund : Cond.selects yX10_refund.cls yX10_refund yX10_refund ∈ xT := List.mem_filter.mpr ⟨List.mem_append_left _ (List.mem_of_getElem? (i := 30) (by decide +kernel)), by decide +kernel⟩
theorem se_X10_openGate : Cond.selects yX10_openGate.cls yX10_openGate yX10_openGate ∈ xT := List.mem_filter.mpr ⟨List.mem_append_left _ (List.mem_of_getElem? (i := 31) (by decide +kernel)), by decide +kernel⟩
theorem se_X10_passGate : Cond.selects yX10_passGate.cls yX10_passGate yX10_passGate ∈ xT := List.mem_filter.mpr ⟨List.mem_append_left _ (List.mem_of_getElem? (i := 32) (by decide +kernel)), by decide +kernel⟩
theorem se_X0_firstToEnd : Cond.selects yX0_firstToEnd.cls yX0_firstToEnd yX0_firstToEnd ∈ xT := List.mem_filter.mpr ⟨List.mem_append_left _ (List.mem_of_getElem? (i := 33) (by decide +kernel)), by decide +kernel⟩
theorem se_X11_checkCoupon : Cond.selects yX11_checkCoupon.cls yX11_checkCoupon yX11_checkCoupon ∈ xT := List.mem_filter.mpr ⟨List.mem_append_left _ (List.mem_of_getElem? (i := 34) (by decide +kernel)), by decide +kernel⟩
theorem lk_L_227 : xLk RL 227 yX11_init cX11_init 1 none 0 := ⟨List.mem_filter.mpr ⟨List.mem_append_right _ (List.mem_of_getElem? (i := 37) (by decide +kernel)), by decide +kernel⟩, in_X11, co_X11_init, ⟨by decide +kernel, by decide +kernel⟩, by decide +kernel, by decide⟩
theorem lj_X11_1 : Cond.methodLink RX11 1 objectInit ∈ xT := List.mem_filter.mpr ⟨List.mem_append_right _ (List.mem_of_getElem? (i := 40) (by decide +kernel)), by decide +kernel⟩
theorem ln_X11_9 : xLn RX11 9 yX8_init "PacketToll" cX8_init 1 none 0 := ⟨by decide +kernel, in_X8, co_X8_init, ⟨by decide +kernel, by decide +kernel⟩, by decide +kernel, by decide⟩
theorem lj_X8_3 : Cond.methodLink RX8 3 objectInit ∈ xT := List.mem_filter.mpr ⟨List.mem_append_right _ (List.mem_of_getElem? (i := 48) (by decide +kernel)), by decide +kernel⟩
theorem ln_X8_11 : xLn RX8 11 yX9_init "PacketToll" cX9_init 1 none 0 := ⟨by decide +kernel, in_X9, co_X9_init, ⟨by decide +kernel, by decide +kernel⟩, by decide +kernel, by decide⟩
theorem lj_X9_3 : Cond.methodLink RX9 3 objectInit ∈ xT := List.mem_filter.mpr ⟨List.mem_append_right _ (List.mem_of_getElem? (i := 54) (by decide +kernel)), by decide +kernel⟩
theorem fd_X9_9 : xFd RX9 9 9 0 RX9 TX9 7 := ⟨rfl, by decide, by decide, List.mem_filter.mpr ⟨List.mem_append_right _ (List.mem_of_getElem? (i := 55) (by decide +kernel)), by decide +kernel⟩, rfl, rfl, uw_X9⟩
theorem fd_X9_15 : xFd RX9 15 9 1 RX9 TX9 7 := ⟨rfl, by decide, by decide, List.mem_filter.mpr ⟨List.mem_append_right _ (List.mem_of_getElem? (i := 56) (by decide +kernel)), by decide +kernel⟩, rfl, rfl, uw_X9⟩
theorem fd_X11_41 : xFd RX11 41 9 1 RX9 TX9 7 := ⟨rfl, by decide, by decide, List.mem_filter.mpr ⟨List.mem_append_right _ (List.mem_of_getElem? (i := 57) (by decide +kernel)), by decide +kernel⟩, rfl, rfl, uw_X9⟩
theorem fd_X9_25 : xFd RX9 25 9 2 RX9 TX9 7 := ⟨rfl, by decide, by decide, List.mem_filter.mpr ⟨List.mem_append_right _ (List.mem_of_getElem? (i := 58) (by decide +kernel)), by decide +kernel⟩, rfl, rfl, uw_X9⟩
theorem fd_X9_28 : xFd RX9 28 9 3 RX9 TX9 7 := ⟨rfl, by decide, by decide, List.mem_filter.mpr ⟨List.mem_append_right _ (List.mem_of_getElem? (i := 59) (by decide +kernel)), by decide +kernel⟩, rfl, rfl, uw_X9⟩
theorem fd_X8_68 : xFd RX8 68 9 4 RX9 TX9 7 := ⟨rfl, by decide, by decide, List.mem_filter.mpr ⟨List.mem_append_right _ (List.mem_of_getElem? (i := 60) (by decide +kernel)), by decide +kernel⟩, rfl, rfl, uw_X9⟩
theorem fd_X9_37 : xFd RX9 37 9 4 RX9 TX9 7 := ⟨rfl, by decide, by decide, List.mem_filter.mpr ⟨List.mem_append_right _ (List.mem_of_getElem? (i := 61) (by decide +kernel)), by decide +kernel⟩, rfl, rfl, uw_X9⟩
theorem fd_X8_95 : xFd RX8 95 9 5 RX9 TX9 7 := ⟨rfl, by decide, by decide, List.mem_filter.mpr ⟨List.mem_append_right _ (List.mem_of_getElem? (i := 62) (by decide +kernel)), by decide +kernel⟩, rfl, rfl, uw_X9⟩
theorem fd_X9_34 : xFd RX9 34 9 5 RX9 TX9 7 := ⟨rfl, by decide, by decide, List.mem_filter.mpr ⟨List.mem_append_right _ (List.mem_of_getElem? (i := 63) (by decide +kernel)), by decide +kernel⟩, rfl, rfl, uw_X9⟩
theorem fd_X9_40 : xFd RX9 40 9 6 RX9 TX9 7 := ⟨rfl, by decide, by decide, List.mem_filter.mpr ⟨List.mem_append_right _ (List.mem_of_getElem? (i := 64) (by decide +kernel)), by decide +kernel⟩, rfl, rfl, uw_X9⟩
theorem fd_X8_98 : xFd RX8 98 9 6 RX9 TX9 7 := ⟨rfl, by decide, by decide, List.mem_filter.mpr ⟨List.mem_append_right _ (List.mem_of_getElem? (i := 65) (by decide +kernel)), by decide +kernel⟩, rfl, rfl, uw_X9⟩
theorem ln_X8_20 : xLn RX8 20 yX10_init "PacketToll" cX10_init 1 none 0 := ⟨by decide +kernel, in_X10, co_X10_init, ⟨by decide +kernel, by decide +kernel⟩, by decide +kernel, by decide⟩
theorem lj_X10_3 : Cond.methodLink RX10 3 objectInit ∈ xT := List.mem_filter.mpr ⟨List.mem_append_right _ (List.mem_of_getElem? (i := 87) (by decide +kernel)), by decide +kernel⟩
theorem ln_X10_11 : xLn RX10 11 yX2_init "PacketToll" cX2_init 1 none 0 := ⟨by decide +kernel, in_X2, co_X2_init, ⟨by decide +kernel, by decide +kernel⟩, by decide +kernel, by decide⟩
theorem lj_X2_3 : Cond.methodLink RX2 3 objectInit ∈ xT := List.mem_filter.mpr ⟨List.mem_append_right _ (List.mem_of_getElem? (i := 93) (by decide +kernel)), by decide +kernel⟩
theorem fd_X2_9 : xFd RX2 9 2 0 RX2 TX2 4 := ⟨rfl, by decide, by decide, List.mem_filter.mpr ⟨List.mem_append_right _ (List.mem_of_getElem? (i := 94) (by decide +kernel)), by decide +kernel⟩, rfl, rfl, uw_X2⟩
theorem fd_X11_125 : xFd RX11 125 2 0 RX2 TX2 4 := ⟨rfl, by decide, by decide, List.mem_filter.mpr ⟨List.mem_append_right _ (List.mem_of_getElem? (i := 95) (by decide +kernel)), by decide +kernel⟩, rfl, rfl, uw_X2⟩
theorem fd_X10_206 : xFd RX10 206 2 0 RX2 TX2 4 := ⟨rfl, by decide, by decide, List.mem_filter.mpr ⟨List.mem_append_right _ (List.mem_of_getElem? (i := 96) (by decide +kernel)), by decide +kernel⟩, rfl, rfl, uw_X2⟩
theorem fd_X2_15 : xFd RX2 15 2 1 RX2 TX2 4 := ⟨rfl, by decide, by decide, List.mem_filter.mpr ⟨List.mem_append_right _ (List.mem_of_getElem? (i := 97) (by decide +kernel)), by decide +kernel⟩, rfl, rfl, uw_X2⟩
theorem fd_X10_116 : xFd RX10 116 2 1 RX2 TX2 4 := ⟨rfl, by decide, by decide, List.mem_filter.mpr ⟨List.mem_append_right _ (List.mem_of_getElem? (i := 98) (by decide +kernel)), by decide +kernel⟩, rfl, rfl, uw_X2⟩
theorem fd_X11_129 : xFd RX11 129 2 1 RX2 TX2 4 := ⟨rfl, by decide, by decide, List.mem_filter.mpr ⟨List.mem_append_right _ (List.mem_of_getElem? (i := 99) (by decide +kernel)), by decide +kernel⟩, rfl, rfl, uw_X2⟩
theorem fd_X2_18 : xFd RX2 18 2 2 RX2 TX2 4 := ⟨rfl, by decide, by decide, List.mem_filter.mpr ⟨List.mem_append_right _ (List.mem_of_getElem? (i := 100) (by decide +kernel)), by decide +kernel⟩, rfl, rfl, uw_X2⟩
theorem fd_X11_132 : xFd RX11 132 2 2 RX2 TX2 4 := ⟨rfl, by decide, by decide, List.mem_filter.mpr ⟨List.mem_append_right _ (List.mem_of_getElem? (i := 101) (by decide +kernel)), by decide +kernel⟩, rfl, rfl, uw_X2⟩
theorem fd_X10_212 : xFd RX10 212 2 2 RX2 TX2 4 := ⟨rfl, by decide, by decide, List.mem_filter.mpr ⟨List.mem_append_right _ (List.mem_of_getElem? (i := 102) (by decide +kernel)), by decide +kernel⟩, rfl, rfl, uw_X2⟩
theorem fd_X2_21 : xFd RX2 21 2 3 RX2 TX2 4 := ⟨rfl, by decide, by decide, List.mem_filter.mpr ⟨List.mem_append_right _ (List.mem_of_getElem? (i := 103) (by decide +kernel)), by decide +kernel⟩, rfl, rfl, uw_X2⟩
theorem fd_X10_107 : xFd RX10 107 2 3 RX2 TX2 4 := ⟨rfl, by decide, by decide, List.mem_filter.mpr ⟨List.mem_append_right _ (List.mem_of_getElem? (i := 104) (by decide +kernel)), by decide +kernel⟩, rfl, rfl, uw_X2⟩
theorem fd_X11_90 : xFd RX11 90 2 3 RX2 TX2 4 := ⟨rfl, by decide, by decide, List.mem_filter.mpr ⟨List.mem_append_right _ (List.mem_of_getElem? (i := 105) (by decide +kernel)), by decide +kernel⟩, rfl, rfl, uw_X2⟩
theorem fd_X8_149 : xFd RX8 149 2 3 RX2 TX2 4 := ⟨rfl, by decide, by decide, List.mem_filter.mpr ⟨List.mem_append_right _ (List.mem_of_getElem? (i := 106) (by decide +kernel)), by decide +kernel⟩, rfl, rfl, uw_X2⟩
theorem ln_X10_20 : xLn RX10 20 yX1_init "PacketToll" cX1_init 1 none 0 := ⟨by decide +kernel, in_X1, co_X1_init, ⟨by decide +kernel, by decide +kernel⟩, by decide +kernel, by decide⟩
theorem lj_X1_3 : Cond.methodLink RX1 3 objectInit ∈ xT := List.mem_filter.mpr ⟨List.mem_append_right _ (List.mem_of_getElem? (i := 122) (by decide +kernel)), by decide +kernel⟩
theorem fd_X1_9 : xFd RX1 9 1 0 RX1 TX1 5 := ⟨rfl, by decide, by decide, List.mem_filter.mpr ⟨List.mem_append_right _ (List.mem_of_getElem? (i := 123) (by decide +kernel)), by decide +kernel⟩, rfl, rfl, uw_X1⟩
theorem fd_X1_15 : xFd RX1 15 1 1 RX1 TX1 5 := ⟨rfl, by decide, by decide, List.mem_filter.mpr ⟨List.mem_append_right _ (List.mem_of_getElem? (i := 124) (by decide +kernel)), by decide +kernel⟩, rfl, rfl, uw_X1⟩
theorem fd_X11_138 : xFd RX11 138 1 1 RX1 TX1 5 := ⟨rfl, by decide, by decide, List.mem_filter.mpr ⟨List.mem_append_right _ (List.mem_of_getElem? (i := 125) (by decide +kernel)), by decide +kernel⟩, rfl, rfl, uw_X1⟩
theorem fd_X10_250 : xFd RX10 250 1 1 RX1 TX1 5 := ⟨rfl, by decide, by decide, List.mem_filter.mpr ⟨List.mem_append_right _ (List.mem_of_getElem? (i := 126) (by decide +kernel)), by decide +kernel⟩, rfl, rfl, uw_X1⟩
theorem fd_X1_18 : xFd RX1 18 1 2 RX1 TX1 5 := ⟨rfl, by decide, by decide, List.mem_filter.mpr ⟨List.mem_append_right _ (List.mem_of_getElem? (i := 127) (by decide +kernel)), by decide +kernel⟩, rfl, rfl, uw_X1⟩
theorem fd_X11_141 : xFd RX11 141 1 2 RX1 TX1 5 := ⟨rfl, by decide, by decide, List.mem_filter.mpr ⟨List.mem_append_right _ (List.mem_of_getElem? (i := 128) (by decide +kernel)), by decide +kernel⟩, rfl, rfl, uw_X1⟩
theorem fd_X10_187 : xFd RX10 187 1 2 RX1 TX1 5 := ⟨rfl, by decide, by decide, List.mem_filter.mpr ⟨List.mem_append_right _ (List.mem_of_getElem? (i := 129) (by decide +kernel)), by decide +kernel⟩, rfl, rfl, uw_X1⟩
theorem fd_X1_21 : xFd RX1 21 1 3 RX1 TX1 5 := ⟨rfl, by decide, by decide, List.mem_filter.mpr ⟨List.mem_append_right _ (List.mem_of_getElem? (i := 130) (by decide +kernel)), by decide +kernel⟩, rfl, rfl, uw_X1⟩
theorem fd_X11_144 : xFd RX11 144 1 3 RX1 TX1 5 := ⟨rfl, by decide, by decide, List.mem_filter.mpr ⟨List.mem_append_right _ (List.mem_of_getElem? (i := 131) (by decide +kernel)), by decide +kernel⟩, rfl, rfl, uw_X1⟩
theorem fd_X10_240 : xFd RX10 240 1 3 RX1 TX1 5 := ⟨rfl, by decide, by decide, List.mem_filter.mpr ⟨List.mem_append_right _ (List.mem_of_getElem? (i := 132) (by decide +kernel)), by decide +kernel⟩, rfl, rfl, uw_X1⟩
theorem fd_X1_24 : xFd RX1 24 1 4 RX1 TX1 5 := ⟨rfl, by decide, by decide, List.mem_filter.mpr ⟨List.mem_append_right _ (List.mem_of_getElem? (i := 133) (by decide +kernel)), by decide +kernel⟩, rfl, rfl, uw_X1⟩
theorem fd_X10_110 : xFd RX10 110 1 4 RX1 TX1 5 := ⟨rfl, by decide, by decide, List.mem_filter.mpr ⟨List.mem_append_right _ (List.mem_of_getElem? (i := 134) (by decide +kernel)), by decide +kernel⟩, rfl, rfl, uw_X1⟩
theorem fd_X11_97 : xFd RX11 97 1 4 RX1 TX1 5 := ⟨rfl, by decide, by decide, List.mem_filter.mpr ⟨List.mem_append_right _ (List.mem_of_getElem? (i := 135) (by decide +kernel)), by decide +kernel⟩, rfl, rfl, uw_X1⟩
theorem fd_X8_166 : xFd RX8 166 1 4 RX1 TX1 5 := ⟨rfl, by decide, by decide, List.mem_filter.mpr ⟨List.mem_append_right _ (List.mem_of_getElem? (i := 136) (by decide +kernel)), by decide +kernel⟩, rfl, rfl, uw_X1⟩
theorem ln_X10_27 : xLn RX10 27 yX4_init "PacketToll" cX4_init 1 none 0 := ⟨by decide +kernel, in_X4, co_X4_init, ⟨by decide +kernel, by decide +kernel⟩, by decide +kernel, by decide⟩
theorem lj_X4_3 : Cond.methodLink RX4 3 objectInit ∈ xT := List.mem_filter.mpr ⟨List.mem_append_right _ (List.mem_of_getElem? (i := 153) (by decide +kernel)), by decide +kernel⟩
theorem fd_X4_11 : xFd RX4 11 4 0 RX4 TX4 5 := ⟨rfl, by decide, by decide, List.mem_filter.mpr ⟨List.mem_append_right _ (List.mem_of_getElem? (i := 154) (by decide +kernel)), by decide +kernel⟩, rfl, rfl, uw_X4⟩
theorem fd_X10_174 : xFd RX10 174 4 0 RX4 TX4 5 := ⟨rfl, by decide, by decide, List.mem_filter.mpr ⟨List.mem_append_right _ (List.mem_of_getElem? (i := 155) (by decide +kernel)), by decide +kernel⟩, rfl, rfl, uw_X4⟩
theorem fd_X11_169 : xFd RX11 169 4 0 RX4 TX4 5 := ⟨rfl, by decide, by decide, List.mem_filter.mpr ⟨List.mem_append_right _ (List.mem_of_getElem? (i := 156) (by decide +kernel)), by decide +kernel⟩, rfl, rfl, uw_X4⟩
theorem fd_X4_15 : xFd RX4 15 4 1 RX4 TX4 5 := ⟨rfl, by decide, by decide, List.mem_filter.mpr ⟨List.mem_append_right _ (List.mem_of_getElem? (i := 157) (by decide +kernel)), by decide +kernel⟩, rfl, rfl, uw_X4⟩
theorem fd_X11_174 : xFd RX11 174 4 1 RX4 TX4 5 := ⟨rfl, by decide, by decide, List.mem_filter.mpr ⟨List.mem_append_right _ (List.mem_of_getElem? (i := 158) (by decide +kernel)), by decide +kernel⟩, rfl, rfl, uw_X4⟩
theorem fd_X10_209 : xFd RX10 209 4 1 RX4 TX4 5 := ⟨rfl, by decide, by decide, List.mem_filter.mpr ⟨List.mem_append_right _ (List.mem_of_getElem? (i := 159) (by decide +kernel)), by decide +kernel⟩, rfl, rfl, uw_X4⟩
theorem fd_X4_18 : xFd RX4 18 4 2 RX4 TX4 5 := ⟨rfl, by decide, by decide, List.mem_filter.mpr ⟨List.mem_append_right _ (List.mem_of_getElem? (i := 160) (by decide +kernel)), by decide +kernel⟩, rfl, rfl, uw_X4⟩
theorem fd_X4_21 : xFd RX4 21 4 3 RX4 TX4 5 := ⟨rfl, by decide, by decide, List.mem_filter.mpr ⟨List.mem_append_right _ (List.mem_of_getElem? (i := 161) (by decide +kernel)), by decide +kernel⟩, rfl, rfl, uw_X4⟩
theorem fd_X4_24 : xFd RX4 24 4 4 RX4 TX4 5 := ⟨rfl, by decide, by decide, List.mem_filter.mpr ⟨List.mem_append_right _ (List.mem_of_getElem? (i := 162) (by decide +kernel)), by decide +kernel⟩, rfl, rfl, uw_X4⟩
theorem ln_X10_34 : xLn RX10 34 yX5_init "PacketToll" cX5_init 1 none 0 := ⟨by decide +kernel, in_X5, co_X5_init, ⟨by decide +kernel, by decide +kernel⟩, by decide +kernel, by decide⟩
theorem lj_X5_3 : Cond.methodLink RX5 3 objectInit ∈ xT := List.mem_filter.mpr ⟨List.mem_append_right _ (List.mem_of_getElem? (i := 179) (by decide +kernel)), by decide +kernel⟩
theorem fd_X5_9 : xFd RX5 9 5 0 RX5 TX5 9 := ⟨rfl, by decide, by decide, List.mem_filter.mpr ⟨List.mem_append_right _ (List.mem_of_getElem? (i := 180) (by decide +kernel)), by decide +kernel⟩, rfl, rfl, uw_X5⟩
theorem fd_X10_126 : xFd RX10 126 5 0 RX5 TX5 9 := ⟨rfl, by decide, by decide, List.mem_filter.mpr ⟨List.mem_append_right _ (List.mem_of_getElem? (i := 181) (by decide +kernel)), by decide +kernel⟩, rfl, rfl, uw_X5⟩
theorem fd_X11_180 : xFd RX11 180 5 0 RX5 TX5 9 := ⟨rfl, by decide, by decide, List.mem_filter.mpr ⟨List.mem_append_right _ (List.mem_of_getElem? (i := 182) (by decide +kernel)), by decide +kernel⟩, rfl, rfl, uw_X5⟩
theorem fd_X5_15 : xFd RX5 15 5 1 RX5 TX5 9 := ⟨rfl, by decide, by decide, List.mem_filter.mpr ⟨List.mem_append_right _ (List.mem_of_getElem? (i := 183) (by decide +kernel)), by decide +kernel⟩, rfl, rfl, uw_X5⟩
theorem fd_X10_151 : xFd RX10 151 5 1 RX5 TX5 9 := ⟨rfl, by decide, by decide, List.mem_filter.mpr ⟨List.mem_append_right _ (List.mem_of_getElem? (i := 184) (by decide +kernel)), by decide +kernel⟩, rfl, rfl, uw_X5⟩
theorem fd_X11_183 : xFd RX11 183 5 1 RX5 TX5 9 := ⟨rfl, by decide, by decide, List.mem_filter.mpr ⟨List.mem_append_right _ (List.mem_of_getElem? (i := 185) (by decide +kernel)), by decide +kernel⟩, rfl, rfl, uw_X5⟩
theorem fd_X5_18 : xFd RX5 18 5 2 RX5 TX5 9 := ⟨rfl, by decide, by decide, List.mem_filter.mpr ⟨List.mem_append_right _ (List.mem_of_getElem? (i := 186) (by decide +kernel)), by decide +kernel⟩, rfl, rfl, uw_X5⟩
theorem fd_X10_171 : xFd RX10 171 5 2 RX5 TX5 9 := ⟨rfl, by decide, by decide, List.mem_filter.mpr ⟨List.mem_append_right _ (List.mem_of_getElem? (i := 187) (by decide +kernel)), by decide +kernel⟩, rfl, rfl, uw_X5⟩
theorem fd_X11_186 : xFd RX11 186 5 2 RX5 TX5 9 := ⟨rfl, by decide, by decide, List.mem_filter.mpr ⟨List.mem_append_right _ (List.mem_of_getElem? (i := 188) (by decide +kernel)), by decide +kernel⟩, rfl, rfl, uw_X5⟩
theorem fd_X5_21 : xFd RX5 21 5 3 RX5 TX5 9 := ⟨rfl, by decide, by decide, List.mem_filter.mpr ⟨List.mem_append_right _ (List.mem_of_getElem? (i := 189) (by decide +kernel)), by decide +kernel⟩, rfl, rfl, uw_X5⟩
theorem fd_X10_123 : xFd RX10 123 5 3 RX5 TX5 9 := ⟨rfl, by decide, by decide, List.mem_filter.mpr ⟨List.mem_append_right _ (List.mem_of_getElem? (i := 190) (by decide +kernel)), by decide +kernel⟩, rfl, rfl, uw_X5⟩
theorem fd_X11_189 : xFd RX11 189 5 3 RX5 TX5 9 := ⟨rfl, by decide, by decide, List.mem_filter.mpr ⟨List.mem_append_right _ (List.mem_of_getElem? (i := 191) (by decide +kernel)), by decide +kernel⟩, rfl, rfl, uw_X5⟩
theorem fd_X5_24 : xFd RX5 24 5 4 RX5 TX5 9 := ⟨rfl, by decide, by decide, List.mem_filter.mpr ⟨List.mem_append_right _ (List.mem_of_getElem? (i := 192) (by decide +kernel)), by decide +kernel⟩, rfl, rfl, uw_X5⟩
theorem fd_X10_129 : xFd RX10 129 5 4 RX5 TX5 9 := ⟨rfl, by decide, by decide, List.mem_filter.mpr ⟨List.mem_append_right _ (List.mem_of_getElem? (i := 193) (by decide +kernel)), by decide +kernel⟩, rfl, rfl, uw_X5⟩
theorem fd_X5_27 : xFd RX5 27 5 5 RX5 TX5 9 := ⟨rfl, by decide, by decide, List.mem_filter.mpr ⟨List.mem_append_right _ (List.mem_of_getElem? (i := 194) (by decide +kernel)), by decide +kernel⟩, rfl, rfl, uw_X5⟩
theorem fd_X10_184 : xFd RX10 184 5 5 RX5 TX5 9 := ⟨rfl, by decide, by decide, List.mem_filter.mpr ⟨List.mem_append_right _ (List.mem_of_getElem? (i := 195) (by decide +kernel)), by decide +kernel⟩, rfl, rfl, uw_X5⟩
theorem fd_X5_30 : xFd RX5 30 5 6 RX5 TX5 9 := ⟨rfl, by decide, by decide, List.mem_filter.mpr ⟨List.mem_append_right _ (List.mem_of_getElem? (i := 196) (by decide +kernel)), by decide +kernel⟩, rfl, rfl, uw_X5⟩
theorem fd_X11_195 : xFd RX11 195 5 6 RX5 TX5 9 := ⟨rfl, by decide, by decide, List.mem_filter.mpr ⟨List.mem_append_right _ (List.mem_of_getElem? (i := 197) (by decide +kernel)), by decide +kernel⟩, rfl, rfl, uw_X5⟩
theorem fd_X10_221 : xFd RX10 221 5 6 RX5 TX5 9 := ⟨rfl, by decide, by decide, List.mem_filter.mpr ⟨List.mem_append_right _ (List.mem_of_getElem? (i := 198) (by decide +kernel)), by decide +kernel⟩, rfl, rfl, uw_X5⟩
theorem fd_X5_33 : xFd RX5 33 5 7 RX5 TX5 9 := ⟨rfl, by decide, by decide, List.mem_filter.mpr ⟨List.mem_append_right _ (List.mem_of_getElem? (i := 199) (by decide +kernel)), by decide +kernel⟩, rfl, rfl, uw_X5⟩
theorem fd_X11_198 : xFd RX11 198 5 7 RX5 TX5 9 := ⟨rfl, by decide, by decide, List.mem_filter.mpr ⟨List.mem_append_right _ (List.mem_of_getElem? (i := 200) (by decide +kernel)), by decide +kernel⟩, rfl, rfl, uw_X5⟩
theorem fd_X10_218 : xFd RX10 218 5 7 RX5 TX5 9 := ⟨rfl, by decide, by decide, List.mem_filter.mpr ⟨List.mem_append_right _ (List.mem_of_getElem? (i := 201) (by decide +kernel)), by decide +kernel⟩, rfl, rfl, uw_X5⟩
theorem fd_X5_36 : xFd RX5 36 5 8 RX5 TX5 9 := ⟨rfl, by decide, by decide, List.mem_filter.mpr ⟨List.mem_append_right _ (List.mem_of_getElem? (i := 202) (by decide +kernel)), by decide +kernel⟩, rfl, rfl, uw_X5⟩
theorem fd_X10_111 : xFd RX10 111 5 8 RX5 TX5 9 := ⟨rfl, by decide, by decide, List.mem_filter.mpr ⟨List.mem_append_right _ (List.mem_of_getElem? (i := 203) (by decide +kernel)), by decide +kernel⟩, rfl, rfl, uw_X5⟩
theorem fd_X11_78 : xFd RX11 78 5 8 RX5 TX5 9 := ⟨rfl, by decide, by decide, List.mem_filter.mpr ⟨List.mem_append_right _ (List.mem_of_getElem? (i := 204) (by decide +kernel)), by decide +kernel⟩, rfl, rfl, uw_X5⟩
theorem fd_X8_190 : xFd RX8 190 5 8 RX5 TX5 9 := ⟨rfl, by decide, by decide, List.mem_filter.mpr ⟨List.mem_append_right _ (List.mem_of_getElem? (i := 205) (by decide +kernel)), by decide +kernel⟩, rfl, rfl, uw_X5⟩
theorem ln_X10_41 : xLn RX10 41 yX0_init "PacketToll" cX0_init 1 none 0 := ⟨by decide +kernel, in_X0, co_X0_init, ⟨by decide +kernel, by decide +kernel⟩, by decide +kernel, by decide⟩
theorem lj_X0_3 : Cond.methodLink RX0 3 objectInit ∈ xT := List.mem_filter.mpr ⟨List.mem_append_right _ (List.mem_of_getElem? (i := 230) (by decide +kernel)), by decide +kernel⟩
theorem fd_X0_9 : xFd RX0 9 0 0 RX0 TX0 5 := ⟨rfl, by decide, by decide, List.mem_filter.mpr ⟨List.mem_append_right _ (List.mem_of_getElem? (i := 231) (by decide +kernel)), by decide +kernel⟩, rfl, rfl, uw_X0⟩
theorem fd_X11_204 : xFd RX11 204 0 0 RX0 TX0 5 := ⟨rfl, by decide, by decide, List.mem_filter.mpr ⟨List.mem_append_right _ (List.mem_of_getElem? (i := 232) (by decide +kernel)), by decide +kernel⟩, rfl, rfl, uw_X0⟩
theorem fd_X0_15 : xFd RX0 15 0 1 RX0 TX0 5 := ⟨rfl, by decide, by decide, List.mem_filter.mpr ⟨List.mem_append_right _ (List.mem_of_getElem? (i := 233) (by decide +kernel)), by decide +kernel⟩, rfl, rfl, uw_X0⟩
theorem fd_X11_205 : xFd RX11 205 0 1 RX0 TX0 5 := ⟨rfl, by decide, by decide, List.mem_filter.mpr ⟨List.mem_append_right _ (List.mem_of_getElem? (i := 234) (by decide +kernel)), by decide +kernel⟩, rfl, rfl, uw_X0⟩
theorem fd_X0_18 : xFd RX0 18 0 2 RX0 TX0 5 := ⟨rfl, by decide, by decide, List.mem_filter.mpr ⟨List.mem_append_right _ (List.mem_of_getElem? (i := 235) (by decide +kernel)), by decide +kernel⟩, rfl, rfl, uw_X0⟩
theorem fd_X10_159 : xFd RX10 159 0 2 RX0 TX0 5 := ⟨rfl, by decide, by decide, List.mem_filter.mpr ⟨List.mem_append_right _ (List.mem_of_getElem? (i := 236) (by decide +kernel)), by decide +kernel⟩, rfl, rfl, uw_X0⟩
theorem fd_X11_208 : xFd RX11 208 0 2 RX0 TX0 5 := ⟨rfl, by decide, by decide, List.mem_filter.mpr ⟨List.mem_append_right _ (List.mem_of_getElem? (i := 237) (by decide +kernel)), by decide +kernel⟩, rfl, rfl, uw_X0⟩
theorem fd_X0_21 : xFd RX0 21 0 3 RX0 TX0 5 := ⟨rfl, by decide, by decide, List.mem_filter.mpr ⟨List.mem_append_right _ (List.mem_of_getElem? (i := 238) (by decide +kernel)), by decide +kernel⟩, rfl, rfl, uw_X0⟩
theorem fd_X11_211 : xFd RX11 211 0 3 RX0 TX0 5 := ⟨rfl, by decide, by decide, List.mem_filter.mpr ⟨List.mem_append_right _ (List.mem_of_getElem? (i := 239) (by decide +kernel)), by decide +kernel⟩, rfl, rfl, uw_X0⟩
theorem fd_X0_24 : xFd RX0 24 0 4 RX0 TX0 5 := ⟨rfl, by decide, by decide, List.mem_filter.mpr ⟨List.mem_append_right _ (List.mem_of_getElem? (i := 240) (by decide +kernel)), by decide +kernel⟩, rfl, rfl, uw_X0⟩
theorem fd_X10_112 : xFd RX10 112 0 4 RX0 TX0 5 := ⟨rfl, by decide, by decide, List.mem_filter.mpr ⟨List.mem_append_right _ (List.mem_of_getElem? (i := 241) (by decide +kernel)), by decide +kernel⟩, rfl, rfl, uw_X0⟩
theorem fd_X11_104 : xFd RX11 104 0 4 RX0 TX0 5 := ⟨rfl, by decide, by decide, List.mem_filter.mpr ⟨List.mem_append_right _ (List.mem_of_getElem? (i := 242) (by decide +kernel)), by decide +kernel⟩, rfl, rfl, uw_X0⟩
theorem fd_X8_198 : xFd RX8 198 0 4 RX0 TX0 5 := ⟨rfl, by decide, by decide, List.mem_filter.mpr ⟨List.mem_append_right _ (List.mem_of_getElem? (i := 243) (by decide +kernel)), by decide +kernel⟩, rfl, rfl, uw_X0⟩
theorem ln_X10_48 : xLn RX10 48 yX6_init "PacketToll" cX6_init 1 none 0 := ⟨by decide +kernel, in_X6, co_X6_init, ⟨by decide +kernel, by decide +kernel⟩, by decide +kernel, by decide⟩
theorem lj_X6_3 : Cond.methodLink RX6 3 objectInit ∈ xT := List.mem_filter.mpr ⟨List.mem_append_right _ (List.mem_of_getElem? (i := 260) (by decide +kernel)), by decide +kernel⟩
theorem fd_X6_9 : xFd RX6 9 6 0 RX6 TX6 7 := ⟨rfl, by decide, by decide, List.mem_filter.mpr ⟨List.mem_append_right _ (List.mem_of_getElem? (i := 261) (by decide +kernel)), by decide +kernel⟩, rfl, rfl, uw_X6⟩
theorem fd_X6_15 : xFd RX6 15 6 1 RX6 TX6 7 := ⟨rfl, by decide, by decide, List.mem_filter.mpr ⟨List.mem_append_right _ (List.mem_of_getElem? (i := 262) (by decide +kernel)), by decide +kernel⟩, rfl, rfl, uw_X6⟩
theorem fd_X6_18 : xFd RX6 18 6 2 RX6 TX6 7 := ⟨rfl, by decide, by decide, List.mem_filter.mpr ⟨List.mem_append_right _ (List.mem_of_getElem? (i := 263) (by decide +kernel)), by decide +kernel⟩, rfl, rfl, uw_X6⟩
theorem fd_X6_21 : xFd RX6 21 6 3 RX6 TX6 7 := ⟨rfl, by decide, by decide, List.mem_filter.mpr ⟨List.mem_append_right _ (List.mem_of_getElem? (i := 264) (by decide +kernel)), by decide +kernel⟩, rfl, rfl, uw_X6⟩
theorem fd_X6_24 : xFd RX6 24 6 4 RX6 TX6 7 := ⟨rfl, by decide, by decide, List.mem_filter.mpr ⟨List.mem_append_right _ (List.mem_of_getElem? (i := 265) (by decide +kernel)), by decide +kernel⟩, rfl, rfl, uw_X6⟩
theorem fd_X6_27 : xFd RX6 27 6 5 RX6 TX6 7 := ⟨rfl, by decide, by decide, List.mem_filter.mpr ⟨List.mem_append_right _ (List.mem_of_getElem? (i := 266) (by decide +kernel)), by decide +kernel⟩, rfl, rfl, uw_X6⟩
theorem fd_X6_31 : xFd RX6 31 6 6 RX6 TX6 7 := ⟨rfl, by decide, by decide, List.mem_filter.mpr ⟨List.mem_append_right _ (List.mem_of_getElem? (i := 267) (by decide +kernel)), by decide +kernel⟩, rfl, rfl, uw_X6⟩
theorem lk_X10_55 : xLk RX10 55 yX7_init cX7_init 2 none 1 := ⟨List.mem_filter.mpr ⟨List.mem_append_right _ (List.mem_of_getElem? (i := 285) (by decide +kernel)), by decide +kernel⟩, in_X7, co_X7_init, ⟨by decide +kernel, by decide +kernel⟩, by decide +kernel, by decide⟩
theorem lj_X7_3 : Cond.methodLink RX7 3 objectInit ∈ xT := List.mem_filter.mpr ⟨List.mem_append_right _ (List.mem_of_getElem? (i := 288) (by decide +kernel)), by decide +kernel⟩
theorem fd_X7_15 : xFd RX7 15 7 0 RX7 TX7 2 := ⟨rfl, by decide, by decide, List.mem_filter.mpr ⟨List.mem_append_right _ (List.mem_of_getElem? (i := 289) (by decide +kernel)), by decide +kernel⟩, rfl, rfl, uw_X7⟩
theorem fd_X7_9 : xFd RX7 9 7 1 RX7 TX7 2 := ⟨rfl, by decide, by decide, List.mem_filter.mpr ⟨List.mem_append_right _ (List.mem_of_getElem? (i := 290) (by decide +kernel)), by decide +kernel⟩, rfl, rfl, uw_X7⟩
theorem fd_X10_12 : xFd RX10 12 10 0 RX10 TX10 15 := ⟨rfl, by decide, by decide, List.mem_filter.mpr ⟨List.mem_append_right _ (List.mem_of_getElem? (i := 297) (by decide +kernel)), by decide +kernel⟩, rfl, rfl, uw_X10⟩
theorem fd_X11_86 : xFd RX11 86 10 0 RX10 TX10 15 := ⟨rfl, by decide, by decide, List.mem_filter.mpr ⟨List.mem_append_right _ (List.mem_of_getElem? (i := 298) (by decide +kernel)), by decide +kernel⟩, rfl, rfl, uw_X10⟩
theorem fd_X8_145 : xFd RX8 145 10 0 RX10 TX10 15 := ⟨rfl, by decide, by decide, List.mem_filter.mpr ⟨List.mem_append_right _ (List.mem_of_getElem? (i := 299) (by decide +kernel)), by decide +kernel⟩, rfl, rfl, uw_X10⟩
theorem fd_X10_21 : xFd RX10 21 10 1 RX10 TX10 15 := ⟨rfl, by decide, by decide, List.mem_filter.mpr ⟨List.mem_append_right _ (List.mem_of_getElem? (i := 300) (by decide +kernel)), by decide +kernel⟩, rfl, rfl, uw_X10⟩
theorem fd_X11_93 : xFd RX11 93 10 1 RX10 TX10 15 := ⟨rfl, by decide, by decide, List.mem_filter.mpr ⟨List.mem_append_right _ (List.mem_of_getElem? (i := 301) (by decide +kernel)), by decide +kernel⟩, rfl, rfl, uw_X10⟩
theorem fd_X8_162 : xFd RX8 162 10 1 RX10 TX10 15 := ⟨rfl, by decide, by decide, List.mem_filter.mpr ⟨List.mem_append_right _ (List.mem_of_getElem? (i := 302) (by decide +kernel)), by decide +kernel⟩, rfl, rfl, uw_X10⟩
theorem fd_X10_28 : xFd RX10 28 10 2 RX10 TX10 15 := ⟨rfl, by decide, by decide, List.mem_filter.mpr ⟨List.mem_append_right _ (List.mem_of_getElem? (i := 303) (by decide +kernel)), by decide +kernel⟩, rfl, rfl, uw_X10⟩
theorem fd_X11_165 : xFd RX11 165 10 2 RX10 TX10 15 := ⟨rfl, by decide, by decide, List.mem_filter.mpr ⟨List.mem_append_right _ (List.mem_of_getElem? (i := 304) (by decide +kernel)), by decide +kernel⟩, rfl, rfl, uw_X10⟩
theorem fd_X10_35 : xFd RX10 35 10 3 RX10 TX10 15 := ⟨rfl, by decide, by decide, List.mem_filter.mpr ⟨List.mem_append_right _ (List.mem_of_getElem? (i := 305) (by decide +kernel)), by decide +kernel⟩, rfl, rfl, uw_X10⟩
theorem fd_X11_74 : xFd RX11 74 10 3 RX10 TX10 15 := ⟨rfl, by decide, by decide, List.mem_filter.mpr ⟨List.mem_append_right _ (List.mem_of_getElem? (i := 306) (by decide +kernel)), by decide +kernel⟩, rfl, rfl, uw_X10⟩
theorem fd_X8_186 : xFd RX8 186 10 3 RX10 TX10 15 := ⟨rfl, by decide, by decide, List.mem_filter.mpr ⟨List.mem_append_right _ (List.mem_of_getElem? (i := 307) (by decide +kernel)), by decide +kernel⟩, rfl, rfl, uw_X10⟩
theorem fd_X10_42 : xFd RX10 42 10 4 RX10 TX10 15 := ⟨rfl, by decide, by decide, List.mem_filter.mpr ⟨List.mem_append_right _ (List.mem_of_getElem? (i := 308) (by decide +kernel)), by decide +kernel⟩, rfl, rfl, uw_X10⟩
theorem fd_X11_100 : xFd RX11 100 10 4 RX10 TX10 15 := ⟨rfl, by decide, by decide, List.mem_filter.mpr ⟨List.mem_append_right _ (List.mem_of_getElem? (i := 309) (by decide +kernel)), by decide +kernel⟩, rfl, rfl, uw_X10⟩
theorem fd_X8_194 : xFd RX8 194 10 4 RX10 TX10 15 := ⟨rfl, by decide, by decide, List.mem_filter.mpr ⟨List.mem_append_right _ (List.mem_of_getElem? (i := 310) (by decide +kernel)), by decide +kernel⟩, rfl, rfl, uw_X10⟩
theorem fd_X10_49 : xFd RX10 49 10 5 RX10 TX10 15 := ⟨rfl, by decide, by decide, List.mem_filter.mpr ⟨List.mem_append_right _ (List.mem_of_getElem? (i := 311) (by decide +kernel)), by decide +kernel⟩, rfl, rfl, uw_X10⟩
theorem fd_X10_58 : xFd RX10 58 10 6 RX10 TX10 15 := ⟨rfl, by decide, by decide, List.mem_filter.mpr ⟨List.mem_append_right _ (List.mem_of_getElem? (i := 312) (by decide +kernel)), by decide +kernel⟩, rfl, rfl, uw_X10⟩
theorem fd_X8_91 : xFd RX8 91 10 6 RX10 TX10 15 := ⟨rfl, by decide, by decide, List.mem_filter.mpr ⟨List.mem_append_right _ (List.mem_of_getElem? (i := 313) (by decide +kernel)), by decide +kernel⟩, rfl, rfl, uw_X10⟩
theorem fd_X10_98 : xFd RX10 98 10 7 RX10 TX10 15 := ⟨rfl, by decide, by decide, List.mem_filter.mpr ⟨List.mem_append_right _ (List.mem_of_getElem? (i := 314) (by decide +kernel)), by decide +kernel⟩, rfl, rfl, uw_X10⟩
theorem fd_X11_83 : xFd RX11 83 10 7 RX10 TX10 15 := ⟨rfl, by decide, by decide, List.mem_filter.mpr ⟨List.mem_append_right _ (List.mem_of_getElem? (i := 315) (by decide +kernel)), by decide +kernel⟩, rfl, rfl, uw_X10⟩
theorem fd_X10_62 : xFd RX10 62 10 8 RX10 TX10 15 := ⟨rfl, by decide, by decide, List.mem_filter.mpr ⟨List.mem_append_right _ (List.mem_of_getElem? (i := 316) (by decide +kernel)), by decide +kernel⟩, rfl, rfl, uw_X10⟩
theorem fd_X11_117 : xFd RX11 117 10 8 RX10 TX10 15 := ⟨rfl, by decide, by decide, List.mem_filter.mpr ⟨List.mem_append_right _ (List.mem_of_getElem? (i := 317) (by decide +kernel)), by decide +kernel⟩, rfl, rfl, uw_X10⟩
theorem fd_X8_131 : xFd RX8 131 10 8 RX10 TX10 15 := ⟨rfl, by decide, by decide, List.mem_filter.mpr ⟨List.mem_append_right _ (List.mem_of_getElem? (i := 318) (by decide +kernel)), by decide +kernel⟩, rfl, rfl, uw_X10⟩
theorem fd_X10_66 : xFd RX10 66 10 9 RX10 TX10 15 := ⟨rfl, by decide, by decide, List.mem_filter.mpr ⟨List.mem_append_right _ (List.mem_of_getElem? (i := 319) (by decide +kernel)), by decide +kernel⟩, rfl, rfl, uw_X10⟩
theorem fd_X8_135 : xFd RX8 135 10 9 RX10 TX10 15 := ⟨rfl, by decide, by decide, List.mem_filter.mpr ⟨List.mem_append_right _ (List.mem_of_getElem? (i := 320) (by decide +kernel)), by decide +kernel⟩, rfl, rfl, uw_X10⟩
theorem fd_X10_69 : xFd RX10 69 10 10 RX10 TX10 15 := ⟨rfl, by decide, by decide, List.mem_filter.mpr ⟨List.mem_append_right _ (List.mem_of_getElem? (i := 321) (by decide +kernel)), by decide +kernel⟩, rfl, rfl, uw_X10⟩
theorem fd_X8_138 : xFd RX8 138 10 10 RX10 TX10 15 := ⟨rfl, by decide, by decide, List.mem_filter.mpr ⟨List.mem_append_right _ (List.mem_of_getElem? (i := 322) (by decide +kernel)), by decide +kernel⟩, rfl, rfl, uw_X10⟩
theorem fd_X10_101 : xFd RX10 101 10 11 RX10 TX10 15 := ⟨rfl, by decide, by decide, List.mem_filter.mpr ⟨List.mem_append_right _ (List.mem_of_getElem? (i := 323) (by decide +kernel)), by decide +kernel⟩, rfl, rfl, uw_X10⟩
theorem fd_X11_111 : xFd RX11 111 10 11 RX10 TX10 15 := ⟨rfl, by decide, by decide, List.mem_filter.mpr ⟨List.mem_append_right _ (List.mem_of_getElem? (i := 324) (by decide +kernel)), by decide +kernel⟩, rfl, rfl, uw_X10⟩
theorem fd_X10_104 : xFd RX10 104 10 12 RX10 TX10 15 := ⟨rfl, by decide, by decide, List.mem_filter.mpr ⟨List.mem_append_right _ (List.mem_of_getElem? (i := 325) (by decide +kernel)), by decide +kernel⟩, rfl, rfl, uw_X10⟩
theorem fd_X11_114 : xFd RX11 114 10 12 RX10 TX10 15 := ⟨rfl, by decide, by decide, List.mem_filter.mpr ⟨List.mem_append_right _ (List.mem_of_getElem? (i := 326) (by decide +kernel)), by decide +kernel⟩, rfl, rfl, uw_X10⟩
theorem fd_X10_72 : xFd RX10 72 10 13 RX10 TX10 15 := ⟨rfl, by decide, by decide, List.mem_filter.mpr ⟨List.mem_append_right _ (List.mem_of_getElem? (i := 327) (by decide +kernel)), by decide +kernel⟩, rfl, rfl, uw_X10⟩
theorem fd_X11_239 : xFd RX11 239 10 13 RX10 TX10 15 := ⟨rfl, by decide, by decide, List.mem_filter.mpr ⟨List.mem_append_right _ (List.mem_of_getElem? (i := 328) (by decide +kernel)), by decide +kernel⟩, rfl, rfl, uw_X10⟩
theorem fd_X10_76 : xFd RX10 76 10 14 RX10 TX10 15 := ⟨rfl, by decide, by decide, List.mem_filter.mpr ⟨List.mem_append_right _ (List.mem_of_getElem? (i := 329) (by decide +kernel)), by decide +kernel⟩, rfl, rfl, uw_X10⟩
theorem fd_X11_242 : xFd RX11 242 10 14 RX10 TX10 15 := ⟨rfl, by decide, by decide, List.mem_filter.mpr ⟨List.mem_append_right _ (List.mem_of_getElem? (i := 330) (by decide +kernel)), by decide +kernel⟩, rfl, rfl, uw_X10⟩
theorem fd_X8_12 : xFd RX8 12 8 0 RX8 TX8 9 := ⟨rfl, by decide, by decide, List.mem_filter.mpr ⟨List.mem_append_right _ (List.mem_of_getElem? (i := 362) (by decide +kernel)), by decide +kernel⟩, rfl, rfl, uw_X8⟩
theorem fd_X11_37 : xFd RX11 37 8 0 RX8 TX8 9 := ⟨rfl, by decide, by decide, List.mem_filter.mpr ⟨List.mem_append_right _ (List.mem_of_getElem? (i := 363) (by decide +kernel)), by decide +kernel⟩, rfl, rfl, uw_X8⟩
theorem fd_X8_21 : xFd RX8 21 8 1 RX8 TX8 9 := ⟨rfl, by decide, by decide, List.mem_filter.mpr ⟨List.mem_append_right _ (List.mem_of_getElem? (i := 364) (by decide +kernel)), by decide +kernel⟩, rfl, rfl, uw_X8⟩
theorem fd_X11_68 : xFd RX11 68 8 1 RX8 TX8 9 := ⟨rfl, by decide, by decide, List.mem_filter.mpr ⟨List.mem_append_right _ (List.mem_of_getElem? (i := 365) (by decide +kernel)), by decide +kernel⟩, rfl, rfl, uw_X8⟩
theorem fd_X8_29 : xFd RX8 29 8 2 RX8 TX8 9 := ⟨rfl, by decide, by decide, List.mem_filter.mpr ⟨List.mem_append_right _ (List.mem_of_getElem? (i := 366) (by decide +kernel)), by decide +kernel⟩, rfl, rfl, uw_X8⟩
theorem fd_X11_61 : xFd RX11 61 8 2 RX8 TX8 9 := ⟨rfl, by decide, by decide, List.mem_filter.mpr ⟨List.mem_append_right _ (List.mem_of_getElem? (i := 367) (by decide +kernel)), by decide +kernel⟩, rfl, rfl, uw_X8⟩
theorem fd_X8_33 : xFd RX8 33 8 3 RX8 TX8 9 := ⟨rfl, by decide, by decide, List.mem_filter.mpr ⟨List.mem_append_right _ (List.mem_of_getElem? (i := 368) (by decide +kernel)), by decide +kernel⟩, rfl, rfl, uw_X8⟩
theorem fd_X11_60 : xFd RX11 60 8 3 RX8 TX8 9 := ⟨rfl, by decide, by decide, List.mem_filter.mpr ⟨List.mem_append_right _ (List.mem_of_getElem? (i := 369) (by decide +kernel)), by decide +kernel⟩, rfl, rfl, uw_X8⟩
theorem fd_X8_25 : xFd RX8 25 8 4 RX8 TX8 9 := ⟨rfl, by decide, by decide, List.mem_filter.mpr ⟨List.mem_append_right _ (List.mem_of_getElem? (i := 370) (by decide +kernel)), by decide +kernel⟩, rfl, rfl, uw_X8⟩
theorem fd_X8_77 : xFd RX8 77 8 5 RX8 TX8 9 := ⟨rfl, by decide, by decide, List.mem_filter.mpr ⟨List.mem_append_right _ (List.mem_of_getElem? (i := 371) (by decide +kernel)), by decide +kernel⟩, rfl, rfl, uw_X8⟩
theorem fd_X8_36 : xFd RX8 36 8 6 RX8 TX8 9 := ⟨rfl, by decide, by decide, List.mem_filter.mpr ⟨List.mem_append_right _ (List.mem_of_getElem? (i := 372) (by decide +kernel)), by decide +kernel⟩, rfl, rfl, uw_X8⟩
theorem fd_X8_40 : xFd RX8 40 8 7 RX8 TX8 9 := ⟨rfl, by decide, by decide, List.mem_filter.mpr ⟨List.mem_append_right _ (List.mem_of_getElem? (i := 373) (by decide +kernel)), by decide +kernel⟩, rfl, rfl, uw_X8⟩
theorem fd_X8_43 : xFd RX8 43 8 8 RX8 TX8 9 := ⟨rfl, by decide, by decide, List.mem_filter.mpr ⟨List.mem_append_right _ (List.mem_of_getElem? (i := 374) (by decide +kernel)), by decide +kernel⟩, rfl, rfl, uw_X8⟩
theorem ln_X11_18 : xLn RX11 18 yX10_init "PacketToll" cX10_init 1 none 0 := ⟨by decide +kernel, in_X10, co_X10_init, ⟨by decide +kernel, by decide +kernel⟩, by decide +kernel, by decide⟩
theorem lk_X11_28 : xLk RX11 28 yX3_init cX3_init 2 none 0 := ⟨List.mem_filter.mpr ⟨List.mem_append_right _ (List.mem_of_getElem? (i := 398) (by decide +kernel)), by decide +kernel⟩, in_X3, co_X3_init, ⟨by decide +kernel, by decide +kernel⟩, by decide +kernel, by decide⟩
theorem lj_X3_3 : Cond.methodLink RX3 3 objectInit ∈ xT := List.mem_filter.mpr ⟨List.mem_append_right _ (List.mem_of_getElem? (i := 401) (by decide +kernel)), by decide +kernel⟩
theorem ln_X3_17 : xLn RX3 17 yX10_init "PacketToll" cX10_init 1 none 0 := ⟨by decide +kernel, in_X10, co_X10_init, ⟨by decide +kernel, by decide +kernel⟩, by decide +kernel, by decide⟩
theorem fd_X3_11 : xFd RX3 11 3 0 RX3 TX3 3 := ⟨rfl, by decide, by decide, List.mem_filter.mpr ⟨List.mem_append_right _ (List.mem_of_getElem? (i := 405) (by decide +kernel)), by decide +kernel⟩, rfl, rfl, uw_X3⟩
theorem fd_X3_30 : xFd RX3 30 3 1 RX3 TX3 3 := ⟨rfl, by decide, by decide, List.mem_filter.mpr ⟨List.mem_append_right _ (List.mem_of_getElem? (i := 406) (by decide +kernel)), by decide +kernel⟩, rfl, rfl, uw_X3⟩
theorem fd_X3_18 : xFd RX3 18 3 2 RX3 TX3 3 := ⟨rfl, by decide, by decide, List.mem_filter.mpr ⟨List.mem_append_right _ (List.mem_of_getElem? (i := 407) (by decide +kernel)), by decide +kernel⟩, rfl, rfl, uw_X3⟩
theorem fd_X11_10 : xFd RX11 10 11 0 RX11 TX11 5 := ⟨rfl, by decide, by decide, List.mem_filter.mpr ⟨List.mem_append_right _ (List.mem_of_getElem? (i := 415) (by decide +kernel)), by decide +kernel⟩, rfl, rfl, uw_X11⟩
theorem fd_X11_19 : xFd RX11 19 11 1 RX11 TX11 5 := ⟨rfl, by decide, by decide, List.mem_filter.mpr ⟨List.mem_append_right _ (List.mem_of_getElem? (i := 416) (by decide +kernel)), by decide +kernel⟩, rfl, rfl, uw_X11⟩
theorem fd_X11_23 : xFd RX11 23 11 2 RX11 TX11 5 := ⟨rfl, by decide, by decide, List.mem_filter.mpr ⟨List.mem_append_right _ (List.mem_of_getElem? (i := 417) (by decide +kernel)), by decide +kernel⟩, rfl, rfl, uw_X11⟩
theorem fd_X11_29 : xFd RX11 29 11 3 RX11 TX11 5 := ⟨rfl, by decide, by decide, List.mem_filter.mpr ⟨List.mem_append_right _ (List.mem_of_getElem? (i := 418) (by decide +kernel)), by decide +kernel⟩, rfl, rfl, uw_X11⟩
theorem fd_X11_33 : xFd RX11 33 11 4 RX11 TX11 5 := ⟨rfl, by decide, by decide, List.mem_filter.mpr ⟨List.mem_append_right _ (List.mem_of_getElem? (i := 419) (by decide +kernel)), by decide +kernel⟩, rfl, rfl, uw_X11⟩
theorem lk_L_235 : xLk RL 235 yX11_errorOffset cX11_errorOffset 1 (some .int) 0 := ⟨List.mem_filter.mpr ⟨List.mem_append_right _ (List.mem_of_getElem? (i := 431) (by decide +kernel)), by decide +kernel⟩, in_X11, co_X11_errorOffset, ⟨by decide +kernel, by decide +kernel⟩, by decide +kernel, by decide⟩
theorem lk_L_238 : xLk RL 238 yX11_undo cX11_undo 1 (some .int) 0 := ⟨List.mem_filter.mpr ⟨List.mem_append_right _ (List.mem_of_getElem? (i := 435) (by decide +kernel)), by decide +kernel⟩, in_X11, co_X11_undo, ⟨by decide +kernel, by decide +kernel⟩, by decide +kernel, by decide⟩
theorem lk_X11_256 : xLk RX11 256 yX3_takeBack cX3_takeBack 4 (some .int) 1 := ⟨List.mem_filter.mpr ⟨List.mem_append_right _ (List.mem_of_getElem? (i := 439) (by decide +kernel)), by decide +kernel⟩, in_X3, co_X3_takeBack, ⟨by decide +kernel, by decide +kernel⟩, by decide +kernel, by decide⟩
theorem lk_X3_22 : xLk RX3 22 yX3_at cX3_at 2 (some (.object "PacketToll$World")) 1 := ⟨List.mem_filter.mpr ⟨List.mem_append_right _ (List.mem_of_getElem? (i := 443) (by decide +kernel)), by decide +kernel⟩, in_X3, co_X3_at, ⟨by decide +kernel, by decide +kernel⟩, by decide +kernel, by decide⟩
theorem lk_X3_26 : xLk RX3 26 yX10_copyFrom cX10_copyFrom 2 none 1 := ⟨List.mem_filter.mpr ⟨List.mem_append_right _ (List.mem_of_getElem? (i := 447) (by decide +kernel)), by decide +kernel⟩, in_X10, co_X10_copyFrom, ⟨by decide +kernel, by decide +kernel⟩, by decide +kernel, by decide⟩
theorem lk_X10_79 : xLk RX10 79 yX2_copyFrom cX2_copyFrom 2 none 1 := ⟨List.mem_filter.mpr ⟨List.mem_append_right _ (List.mem_of_getElem? (i := 451) (by decide +kernel)), by decide +kernel⟩, in_X2, co_X2_copyFrom, ⟨by decide +kernel, by decide +kernel⟩, by decide +kernel, by decide⟩
theorem ln_X2_25 : xLn RX2 25 yX11_copyRow "PacketToll" cX11_copyRow 3 none 3 := ⟨by decide +kernel, in_X11, co_X11_copyRow, ⟨by decide +kernel, by decide +kernel⟩, by decide +kernel, by decide⟩
theorem lj_X11_287 : Cond.methodLink RX11 287 arraycopyName ∈ xT := List.mem_filter.mpr ⟨List.mem_append_right _ (List.mem_of_getElem? (i := 458) (by decide +kernel)), by decide +kernel⟩
theorem lk_X10_83 : xLk RX10 83 yX1_copyFrom cX1_copyFrom 2 none 1 := ⟨List.mem_filter.mpr ⟨List.mem_append_right _ (List.mem_of_getElem? (i := 461) (by decide +kernel)), by decide +kernel⟩, in_X1, co_X1_copyFrom, ⟨by decide +kernel, by decide +kernel⟩, by decide +kernel, by decide⟩
theorem ln_X1_28 : xLn RX1 28 yX11_copyRow "PacketToll" cX11_copyRow 3 none 3 := ⟨by decide +kernel, in_X11, co_X11_copyRow, ⟨by decide +kernel, by decide +kernel⟩, by decide +kernel, by decide⟩
theorem lk_X10_86 : xLk RX10 86 yX4_copyFrom cX4_copyFrom 2 none 1 := ⟨List.mem_filter.mpr ⟨List.mem_append_right _ (List.mem_of_getElem? (i := 466) (by decide +kernel)), by decide +kernel⟩, in_X4, co_X4_copyFrom, ⟨by decide +kernel, by decide +kernel⟩, by decide +kernel, by decide⟩
theorem ln_X4_27 : xLn RX4 27 yX11_copyRow "PacketToll" cX11_copyRow 3 none 3 := ⟨by decide +kernel, in_X11, co_X11_copyRow, ⟨by decide +kernel, by decide +kernel⟩, by decide +kernel, by decide⟩
theorem lk_X10_89 : xLk RX10 89 yX5_copyFrom cX5_copyFrom 2 none 1 := ⟨List.mem_filter.mpr ⟨List.mem_append_right _ (List.mem_of_getElem? (i := 471) (by decide +kernel)), by decide +kernel⟩, in_X5, co_X5_copyFrom, ⟨by decide +kernel, by decide +kernel⟩, by decide +kernel, by decide⟩
theorem ln_X5_40 : xLn RX5 40 yX11_copyRow "PacketToll" cX11_copyRow 3 none 3 := ⟨by decide +kernel, in_X11, co_X11_copyRow, ⟨by decide +kernel, by decide +kernel⟩, by decide +kernel, by decide⟩
theorem lk_X10_92 : xLk RX10 92 yX0_copyFrom cX0_copyFrom 2 none 1 := ⟨List.mem_filter.mpr ⟨List.mem_append_right _ (List.mem_of_getElem? (i := 476) (by decide +kernel)), by decide +kernel⟩, in_X0, co_X0_copyFrom, ⟨by decide +kernel, by decide +kernel⟩, by decide +kernel, by decide⟩
theorem ln_X0_28 : xLn RX0 28 yX11_copyRow "PacketToll" cX11_copyRow 3 none 3 := ⟨by decide +kernel, in_X11, co_X11_copyRow, ⟨by decide +kernel, by decide +kernel⟩, by decide +kernel, by decide⟩
theorem lk_X10_95 : xLk RX10 95 yX6_copyFrom cX6_copyFrom 2 none 1 := ⟨List.mem_filter.mpr ⟨List.mem_append_right _ (List.mem_of_getElem? (i := 481) (by decide +kernel)), by decide +kernel⟩, in_X6, co_X6_copyFrom, ⟨by decide +kernel, by decide +kernel⟩, by decide +kernel, by decide⟩
theorem ln_X6_34 : xLn RX6 34 yX11_copyRow "PacketToll" cX11_copyRow 3 none 3 := ⟨by decide +kernel, in_X11, co_X11_copyRow, ⟨by decide +kernel, by decide +kernel⟩, by decide +kernel, by decide⟩
theorem lk_L_228 : xLk RL 228 yX13_init cX13_init 2 none 1 := ⟨List.mem_filter.mpr ⟨List.mem_append_right _ (List.mem_of_getElem? (i := 488) (by decide +kernel)), by decide +kernel⟩, in_X13, co_X13_init, ⟨by decide +kernel, by decide +kernel⟩, by decide +kernel, by decide⟩
theorem lj_X13_1 : Cond.methodLink RX13 1 objectInit ∈ xT := List.mem_filter.mpr ⟨List.mem_append_right _ (List.mem_of_getElem? (i := 491) (by decide +kernel)), by decide +kernel⟩
theorem fd_X13_7 : xFd RX13 7 19 0 RX13 TX13 1 := ⟨rfl, by decide, by decide, List.mem_filter.mpr ⟨List.mem_append_right _ (List.mem_of_getElem? (i := 492) (by decide +kernel)), by decide +kernel⟩, rfl, rfl, uw_X13⟩
theorem lk_L_128 : xLk RL 128 yX13_below cX13_below 2 (some .int) 1 := ⟨List.mem_filter.mpr ⟨List.mem_append_right _ (List.mem_of_getElem? (i := 496) (by decide +kernel)), by decide +kernel⟩, in_X13, co_X13_below, ⟨by decide +kernel, by decide +kernel⟩, by decide +kernel, by decide⟩
theorem ln_L_125 : xLn RL 125 yX14_init "PacketTollLaw" cX14_init 1 none 0 := ⟨by decide +kernel, in_X14, co_X14_init, ⟨by decide +kernel, by decide +kernel⟩, by decide +kernel, by decide⟩
theorem lj_X14_1 : Cond.methodLink RX14 1 objectInit ∈ xT := List.mem_filter.mpr ⟨List.mem_append_right _ (List.mem_of_getElem? (i := 506) (by decide +kernel)), by decide +kernel⟩
theorem fd_X14_45 : xFd RX14 45 20 0 RX14 TX14 14 := ⟨rfl, by decide, by decide, List.mem_filter.mpr ⟨List.mem_append_right _ (List.mem_of_getElem? (i := 510) (by decide +kernel)), by decide +kernel⟩, rfl, rfl, uw_X14⟩
theorem fd_L_258 : xFd RL 258 20 0 RX14 TX14 14 := ⟨rfl, by decide, by decide, List.mem_filter.mpr ⟨List.mem_append_right _ (List.mem_of_getElem? (i := 511) (by decide +kernel)), by decide +kernel⟩, rfl, rfl, uw_X14⟩
theorem fd_X14_9 : xFd RX14 9 20 1 RX14 TX14 14 := ⟨rfl, by decide, by decide, List.mem_filter.mpr ⟨List.mem_append_right _ (List.mem_of_getElem? (i := 512) (by decide +kernel)), by decide +kernel⟩, rfl, rfl, uw_X14⟩
theorem fd_L_133 : xFd RL 133 20 1 RX14 TX14 14 := ⟨rfl, by decide, by decide, List.mem_filter.mpr ⟨List.mem_append_right _ (List.mem_of_getElem? (i := 513) (by decide +kernel)), by decide +kernel⟩, rfl, rfl, uw_X14⟩
theorem fd_X14_15 : xFd RX14 15 20 2 RX14 TX14 14 := ⟨rfl, by decide, by decide, List.mem_filter.mpr ⟨List.mem_append_right _ (List.mem_of_getElem? (i := 514) (by decide +kernel)), by decide +kernel⟩, rfl, rfl, uw_X14⟩
theorem fd_L_151 : xFd RL 151 20 2 RX14 TX14 14 := ⟨rfl, by decide, by decide, List.mem_filter.mpr ⟨List.mem_append_right _ (List.mem_of_getElem? (i := 515) (by decide +kernel)), by decide +kernel⟩, rfl, rfl, uw_X14⟩
theorem fd_X14_18 : xFd RX14 18 20 3 RX14 TX14 14 := ⟨rfl, by decide, by decide, List.mem_filter.mpr ⟨List.mem_append_right _ (List.mem_of_getElem? (i := 516) (by decide +kernel)), by decide +kernel⟩, rfl, rfl, uw_X14⟩
theorem fd_L_148 : xFd RL 148 20 3 RX14 TX14 14 := ⟨rfl, by decide, by decide, List.mem_filter.mpr ⟨List.mem_append_right _ (List.mem_of_getElem? (i := 517) (by decide +kernel)), by decide +kernel⟩, rfl, rfl, uw_X14⟩
theorem fd_X14_21 : xFd RX14 21 20 4 RX14 TX14 14 := ⟨rfl, by decide, by decide, List.mem_filter.mpr ⟨List.mem_append_right _ (List.mem_of_getElem? (i := 518) (by decide +kernel)), by decide +kernel⟩, rfl, rfl, uw_X14⟩
theorem fd_L_157 : xFd RL 157 20 4 RX14 TX14 14 := ⟨rfl, by decide, by decide, List.mem_filter.mpr ⟨List.mem_append_right _ (List.mem_of_getElem? (i := 519) (by decide +kernel)), by decide +kernel⟩, rfl, rfl, uw_X14⟩
theorem fd_X14_24 : xFd RX14 24 20 5 RX14 TX14 14 := ⟨rfl, by decide, by decide, List.mem_filter.mpr ⟨List.mem_append_right _ (List.mem_of_getElem? (i := 520) (by decide +kernel)), by decide +kernel⟩, rfl, rfl, uw_X14⟩
theorem fd_L_161 : xFd RL 161 20 5 RX14 TX14 14 := ⟨rfl, by decide, by decide, List.mem_filter.mpr ⟨List.mem_append_right _ (List.mem_of_getElem? (i := 521) (by decide +kernel)), by decide +kernel⟩, rfl, rfl, uw_X14⟩
theorem fd_X14_27 : xFd RX14 27 20 6 RX14 TX14 14 := ⟨rfl, by decide, by decide, List.mem_filter.mpr ⟨List.mem_append_right _ (List.mem_of_getElem? (i := 522) (by decide +kernel)), by decide +kernel⟩, rfl, rfl, uw_X14⟩
theorem fd_X14_31 : xFd RX14 31 20 7 RX14 TX14 14 := ⟨rfl, by decide, by decide, List.mem_filter.mpr ⟨List.mem_append_right _ (List.mem_of_getElem? (i := 523) (by decide +kernel)), by decide +kernel⟩, rfl, rfl, uw_X14⟩
theorem fd_L_195 : xFd RL 195 20 7 RX14 TX14 14 := ⟨rfl, by decide, by decide, List.mem_filter.mpr ⟨List.mem_append_right _ (List.mem_of_getElem? (i := 524) (by decide +kernel)), by decide +kernel⟩, rfl, rfl, uw_X14⟩
theorem fd_X14_54 : xFd RX14 54 20 8 RX14 TX14 14 := ⟨rfl, by decide, by decide, List.mem_filter.mpr ⟨List.mem_append_right _ (List.mem_of_getElem? (i := 525) (by decide +kernel)), by decide +kernel⟩, rfl, rfl, uw_X14⟩
theorem fd_X14_57 : xFd RX14 57 20 9 RX14 TX14 14 := ⟨rfl, by decide, by decide, List.mem_filter.mpr ⟨List.mem_append_right _ (List.mem_of_getElem? (i := 526) (by decide +kernel)), by decide +kernel⟩, rfl, rfl, uw_X14⟩
theorem fd_X14_34 : xFd RX14 34 20 10 RX14 TX14 14 := ⟨rfl, by decide, by decide, List.mem_filter.mpr ⟨List.mem_append_right _ (List.mem_of_getElem? (i := 527) (by decide +kernel)), by decide +kernel⟩, rfl, rfl, uw_X14⟩
theorem fd_L_165 : xFd RL 165 20 10 RX14 TX14 14 := ⟨rfl, by decide, by decide, List.mem_filter.mpr ⟨List.mem_append_right _ (List.mem_of_getElem? (i := 528) (by decide +kernel)), by decide +kernel⟩, rfl, rfl, uw_X14⟩
theorem fd_X14_38 : xFd RX14 38 20 11 RX14 TX14 14 := ⟨rfl, by decide, by decide, List.mem_filter.mpr ⟨List.mem_append_right _ (List.mem_of_getElem? (i := 529) (by decide +kernel)), by decide +kernel⟩, rfl, rfl, uw_X14⟩
theorem fd_L_170 : xFd RL 170 20 11 RX14 TX14 14 := ⟨rfl, by decide, by decide, List.mem_filter.mpr ⟨List.mem_append_right _ (List.mem_of_getElem? (i := 530) (by decide +kernel)), by decide +kernel⟩, rfl, rfl, uw_X14⟩
theorem fd_X14_41 : xFd RX14 41 20 12 RX14 TX14 14 := ⟨rfl, by decide, by decide, List.mem_filter.mpr ⟨List.mem_append_right _ (List.mem_of_getElem? (i := 531) (by decide +kernel)), by decide +kernel⟩, rfl, rfl, uw_X14⟩
theorem fd_L_173 : xFd RL 173 20 12 RX14 TX14 14 := ⟨rfl, by decide, by decide, List.mem_filter.mpr ⟨List.mem_append_right _ (List.mem_of_getElem? (i := 532) (by decide +kernel)), by decide +kernel⟩, rfl, rfl, uw_X14⟩
theorem fd_X14_60 : xFd RX14 60 20 13 RX14 TX14 14 := ⟨rfl, by decide, by decide, List.mem_filter.mpr ⟨List.mem_append_right _ (List.mem_of_getElem? (i := 533) (by decide +kernel)), by decide +kernel⟩, rfl, rfl, uw_X14⟩
theorem fd_L_183 : xFd RL 183 20 13 RX14 TX14 14 := ⟨rfl, by decide, by decide, List.mem_filter.mpr ⟨List.mem_append_right _ (List.mem_of_getElem? (i := 534) (by decide +kernel)), by decide +kernel⟩, rfl, rfl, uw_X14⟩
theorem lk_L_252 : xLk RL 252 yX14_copy cX14_copy 2 (some (.object "PacketTollLaw$Road")) 0 := ⟨List.mem_filter.mpr ⟨List.mem_append_right _ (List.mem_of_getElem? (i := 564) (by decide +kernel)), by decide +kernel⟩, in_X14, co_X14_copy, ⟨by decide +kernel, by decide +kernel⟩, by decide +kernel, by decide⟩
theorem lk_X14_44 : xLk RX14 44 yX14_init cX14_init 1 none 0 := ⟨List.mem_filter.mpr ⟨List.mem_append_right _ (List.mem_of_getElem? (i := 569) (by decide +kernel)), by decide +kernel⟩, in_X14, co_X14_init, ⟨by decide +kernel, by decide +kernel⟩, by decide +kernel, by decide⟩
theorem ln_X14_48 : xLn RX14 48 yL_copied "PacketTollLaw" cL_copied 3 (some (.array (array .int)) 1 := ⟨by decide +kernel, in_L, co_L_copied, ⟨by decide +kernel, by decide +kernel⟩, by decide +kernel, by decide⟩
theorem lk_L_266 : xLk RL 266 yX14_tick cX14_tick 5 none 0 := ⟨List.mem_filter.mpr ⟨List.mem_append_right _ (List.mem_of_getElem? (i := 580) (by decide +kernel)), by decide +kernel⟩, in_X14, co_X14_tick, ⟨by decide +kernel, by decide +kernel⟩, by decide +kernel, by decide⟩
theorem lj_X14_72 : Cond.methodLink RX14 72 Lib.Math.min.name ∈ xT := List.mem_filter.mpr ⟨List.mem_append_right _ (List.mem_of_getElem? (i := 584) (by decide +kernel)), by decide +kernel⟩
theorem ln_X14_105 : xLn RX14 105 yL_without "PacketTollLaw" cL_without 4 (some (.array (array .int)) 2 := ⟨by decide +kernel, in_L, co_L_without, ⟨by decide +kernel, by decide +kernel⟩, by decide +kernel, by decide⟩
theorem lk_X14_109 : xLk RX14 109 yX14_arrives cX14_arrives 3 none 1 := ⟨List.mem_filter.mpr ⟨List.mem_append_right _ (List.mem_of_getElem? (i := 590) (by decide +kernel)), by decide +kernel⟩, in_X14, co_X14_arrives, ⟨by decide +kernel, by decide +kernel⟩, by decide +kernel, by decide⟩
theorem lk_X14_64 : xLk RX14 64 yX14_gateOf cX14_gateOf 2 (some .int) 1 := ⟨List.mem_filter.mpr ⟨List.mem_append_right _ (List.mem_of_getElem? (i := 594) (by decide +kernel)), by decide +kernel⟩, in_X14, co_X14_gateOf, ⟨by decide +kernel, by decide +kernel⟩, by decide +kernel, by decide⟩
theorem lk_X14_68 : xLk RX14 68 yX14_queue cX14_queue 8 (some .int) 2 := ⟨List.mem_filter.mpr ⟨List.mem_append_right _ (List.mem_of_getElem? (i := 598) (by decide +kernel)), by decide +kernel⟩, in_X14, co_X14_queue, ⟨by decide +kernel, by decide +kernel⟩, by decide +kernel, by decide⟩
theorem ln_X14_77 : xLn RX14 77 yL_with "PacketTollLaw" cL_with 4 (some (.array (array .int)) 2 := ⟨by decide +kernel, in_L, co_L_with, ⟨by decide +kernel, by decide +kernel⟩, by decide +kernel, by decide⟩
theorem lk_X14_113 : xLk RX14 113 yX14_passes cX14_passes 12 (some .boolean) 2 := ⟨List.mem_filter.mpr ⟨List.mem_append_right _ (List.mem_of_getElem? (i := 605) (by decide +kernel)), by decide +kernel⟩, in_X14, co_X14_passes, ⟨by decide +kernel, by decide +kernel⟩, by decide +kernel, by decide⟩
theorem lk_X14_81 : xLk RX14 81 yX14_first cX14_first 8 (some (.array .int)) 2 := ⟨List.mem_filter.mpr ⟨List.mem_append_right _ (List.mem_of_getElem? (i := 609) (by decide +kernel)), by decide +kernel⟩, in_X14, co_X14_first, ⟨by decide +kernel, by decide +kernel⟩, by decide +kernel, by decide⟩
theorem lk_X14_85 : xLk RX14 85 yX14_sum cX14_sum 7 (some .int) 1 := ⟨List.mem_filter.mpr ⟨List.mem_append_right _ (List.mem_of_getElem? (i := 613) (by decide +kernel)), by decide +kernel⟩, in_X14, co_X14_sum, ⟨by decide +kernel, by decide +kernel⟩, by decide +kernel, by decide⟩
theorem lj_X14_89 : Cond.methodLink RX14 89 Lib.Math.max.name ∈ xT := List.mem_filter.mpr ⟨List.mem_append_right _ (List.mem_of_getElem? (i := 617) (by decide +kernel)), by decide +kernel⟩
theorem lk_X14_92 : xLk RX14 92 yX12_value cX12_value 8 (some .long) 1 := ⟨List.mem_filter.mpr ⟨List.mem_append_right _ (List.mem_of_getElem? (i := 620) (by decide +kernel)), by decide +kernel⟩, in_X12, co_X12_value, ⟨by decide +kernel, by decide +kernel⟩, by decide +kernel, by decide⟩
theorem lk_X12_72 : xLk RX12 72 yX12_value cX12_value 8 (some .long) 1 := ⟨List.mem_filter.mpr ⟨List.mem_append_right _ (List.mem_of_getElem? (i := 624) (by decide +kernel)), by decide +kernel⟩, in_X12, co_X12_value, ⟨by decide +kernel, by decide +kernel⟩, by decide +kernel, by decide⟩
theorem lj_X12_80 : Cond.methodLink RX12 80 Lib.MathLoose.min_long.x ∈ xT := List.mem_filter.mpr ⟨List.mem_append_right _ (List.mem_of_getElem? (i := 627) (by decide +kernel)), by decide +kernel⟩
theorem lj_X12_86 : Cond.methodLink RX12 86 Lib.MathLoose.max_long.x ∈ xT := List.mem_filter.mpr ⟨List.mem_append_right _ (List.mem_of_getElem? (i := 630) (by decide +kernel)), by decide +kernel⟩
theorem lj_X14_100 : Cond.methodLink RX14 100 Lib.MathLoose.min_long.x ∈ xT := List.mem_filter.mpr ⟨List.mem_append_right _ (List.mem_of_getElem? (i := 634) (by decide +kernel)), by decide +kernel⟩
theorem lj_X14_103 : Cond.methodLink RX14 103 Lib.MathLoose.max_long.x ∈ xT := List.mem_filter.mpr ⟨List.mem_append_right _ (List.mem_of_getElem? (i := 635) (by decide +kernel)), by decide +kernel⟩
theorem lk_L_263 : xLk RL 263 yX14_count cX14_count 7 (some .int) 1 := ⟨List.mem_filter.mpr ⟨List.mem_append_right _ (List.mem_of_getElem? (i := 637) (by decide +kernel)), by decide +kernel⟩, in_X14, co_X14_count, ⟨by decide +kernel, by decide +kernel⟩, by decide +kernel, by decide⟩
theorem lk_L_37 : xLk RL 37 yX11_load cX11_load 2 (some .int) 1 := ⟨List.mem_filter.mpr ⟨List.mem_append_right _ (List.mem_of_getElem? (i := 645) (by decide +kernel)), by decide +kernel⟩, in_X11, co_X11_load, ⟨by decide +kernel, by decide +kernel⟩, by decide +kernel, by decide⟩
theorem lk_X11_57 : xLk RX11 57 yX8_read cX8_read 3 none 1 := ⟨List.mem_filter.mpr ⟨List.mem_append_right _ (List.mem_of_getElem? (i := 717) (by decide +kernel)), by decide +kernel⟩, in_X8, co_X8_read, ⟨by decide +kernel, by decide +kernel⟩, by decide +kernel, by decide⟩
theorem lk_X8_46 : xLk RX8 46 yX10_clear cX10_clear 1 none 0 := ⟨List.mem_filter.mpr ⟨List.mem_append_right _ (List.mem_of_getElem? (i := 721) (by decide +kernel)), by decide +kernel⟩, in_X10, co_X10_clear, ⟨by decide +kernel, by decide +kernel⟩, by decide +kernel, by decide⟩
theorem lk_X10_113 : xLk RX10 113 yX6_clear cX6_clear 1 none 0 := ⟨List.mem_filter.mpr ⟨List.mem_append_right _ (List.mem_of_getElem? (i := 725) (by decide +kernel)), by decide +kernel⟩, in_X6, co_X6_clear, ⟨by decide +kernel, by decide +kernel⟩, by decide +kernel, by decide⟩
theorem lk_X8_49 : xLk RX8 49 yX9_open cX9_open 2 none 1 := ⟨List.mem_filter.mpr ⟨List.mem_append_right _ (List.mem_of_getElem? (i := 729) (by decide +kernel)), by decide +kernel⟩, in_X9, co_X9_open, ⟨by decide +kernel, by decide +kernel⟩, by decide +kernel, by decide⟩
theorem lj_X9_19 : Cond.methodLink RX9 19 Lib.Math.min.name ∈ xT := List.mem_filter.mpr ⟨List.mem_append_right _ (List.mem_of_getElem? (i := 733) (by decide +kernel)), by decide +kernel⟩
theorem lk_X9_31 : xLk RX9 31 yX9_moveOn cX9_moveOn 1 none 0 := ⟨List.mem_filter.mpr ⟨List.mem_append_right _ (List.mem_of_getElem? (i := 734) (by decide +kernel)), by decide +kernel⟩, in_X9, co_X9_moveOn, ⟨by decide +kernel, by decide +kernel⟩, by decide +kernel, by decide⟩
theorem lk_X8_55 : xLk RX8 55 yX9_isWord cX9_isWord 3 (some .boolean) 1 := ⟨List.mem_filter.mpr ⟨List.mem_append_right _ (List.mem_of_getElem? (i := 740) (by decide +kernel)), by decide +kernel⟩, in_X9, co_X9_isWord, ⟨by decide +kernel, by decide +kernel⟩, by decide +kernel, by decide⟩
theorem lk_X9_44 : xLk RX9 44 yJ0_length_8abf5 cJ0_length_8abf5 1 (some .int) 0 := ⟨List.mem_filter.mpr ⟨List.mem_append_right _ (List.mem_of_getElem? (i := 744) (by decide +kernel)), by decide +kernel⟩, in_J0, co_J0_length_8abf5, ⟨by decide +kernel, by decide +kernel⟩, by decide +kernel, by decide⟩
theorem lk_J0_335 : xLk RJ0 335 yJ0_coder_7d493 cJ0_coder_7d493 1 (some .byte) 0 := ⟨List.mem_filter.mpr ⟨List.mem_append_right _ (List.mem_of_getElem? (i := 748) (by decide +kernel)), by decide +kernel⟩, in_J0, co_J0_coder_7d493, ⟨by decide +kernel, by decide +kernel⟩, by decide +kernel, by decide⟩
theorem lk_X9_50 : xLk RX9 50 yJ0_charAt_5068e cJ0_charAt_5068e 2 (some .char) 1 := ⟨List.mem_filter.mpr ⟨List.mem_append_right _ (List.mem_of_getElem? (i := 754) (by decide +kernel)), by decide +kernel⟩, in_J0, co_J0_charAt_5068e, ⟨by decide +kernel, by decide +kernel⟩, by decide +kernel, by decide⟩
theorem lk_J0_492 : xLk RJ0 492 yJ0_isLatin1_aae02 cJ0_isLatin1_aae02 1 (some .boolean) 0 := ⟨List.mem_filter.mpr ⟨List.mem_append_right _ (List.mem_of_getElem? (i := 758) (by decide +kernel)), by decide +kernel⟩, in_J0, co_J0_isLatin1_aae02, ⟨by decide +kernel, by decide +kernel⟩, by decide +kernel, by decide⟩
theorem lk_J0_495 : xLk RJ0 495 yJ1_charAt_3b067 cJ1_charAt_3b067 2 (some .char) 2 := ⟨List.mem_filter.mpr ⟨List.mem_append_right _ (List.mem_of_getElem? (i := 762) (by decide +kernel)), by decide +kernel⟩, in_J1, co_J1_charAt_3b067, ⟨by decide +kernel, by decide +kernel⟩, by decide +kernel, by decide⟩
theorem lk_J1_9 : xLk RJ1 9 yJ0_checkIndex_df160 cJ0_checkIndex_df160 2 none 2 := ⟨List.mem_filter.mpr ⟨List.mem_append_right _ (List.mem_of_getElem? (i := 765) (by decide +kernel)), by decide +kernel⟩, in_J0, co_J0_checkIndex_df160, ⟨by decide +kernel, by decide +kernel⟩, by decide +kernel, by decide⟩
theorem lk_J0_1059 : xLk RJ0 1059 yJ3_checkIndex_8e157 cJ3_checkIndex_8e157 3 (some .int) 3 := ⟨List.mem_filter.mpr ⟨List.mem_append_right _ (List.mem_of_getElem? (i := 770) (by decide +kernel)), by decide +kernel⟩, in_J3, co_J3_checkIndex_8e157, ⟨by decide +kernel, by decide +kernel⟩, by decide +kernel, by decide⟩
theorem lk_J0_498 : xLk RJ0 498 yJ2_charAt_3b067 cJ2_charAt_3b067 2 (some .char) 2 := ⟨List.mem_filter.mpr ⟨List.mem_append_right _ (List.mem_of_getElem? (i := 773) (by decide +kernel)), by decide +kernel⟩, in_J2, co_J2_charAt_3b067, ⟨by decide +kernel, by decide +kernel⟩, by decide +kernel, by decide⟩
theorem lk_J2_67 : xLk RJ2 67 yJ2_checkIndex_2214a cJ2_checkIndex_2214a 2 none 2 := ⟨List.mem_filter.mpr ⟨List.mem_append_right _ (List.mem_of_getElem? (i := 776) (by decide +kernel)), by decide +kernel⟩, in_J2, co_J2_checkIndex_2214a, ⟨by decide +kernel, by decide +kernel⟩, by decide +kernel, by decide⟩
theorem lk_J2_48 : xLk RJ2 48 yJ2_length_9d52b cJ2_length_9d52b 1 (some .int) 1 := ⟨List.mem_filter.mpr ⟨List.mem_append_right _ (List.mem_of_getElem? (i := 779) (by decide +kernel)), by decide +kernel⟩, in_J2, co_J2_length_9d52b, ⟨by decide +kernel, by decide +kernel⟩, by decide +kernel, by decide⟩
theorem lk_J2_414 : xLk RJ2 414 yJ0_checkIndex_df160 cJ0_checkIndex_df160 2 none 2 := ⟨List.mem_filter.mpr ⟨List.mem_append_right _ (List.mem_of_getElem? (i := 782) (by decide +kernel)), by decide +kernel⟩, in_J0, co_J0_checkIndex_df160, ⟨by decide +kernel, by decide +kernel⟩, by decide +kernel, by decide⟩
theorem lk_J2_71 : xLk RJ2 71 yJ2_getChar_3b067 cJ2_getChar_3b067 2 (some .char) 2 := ⟨List.mem_filter.mpr ⟨List.mem_append_right _ (List.mem_of_getElem? (i := 783) (by decide +kernel)), by decide +kernel⟩, in_J2, co_J2_getChar_3b067, ⟨by decide +kernel, by decide +kernel⟩, by decide +kernel, by decide⟩
theorem lk_X8_59 : xLk RX8 59 yX9_moveOn cX9_moveOn 1 none 0 := ⟨List.mem_filter.mpr ⟨List.mem_append_right _ (List.mem_of_getElem? (i := 792) (by decide +kernel)), by decide +kernel⟩, in_X9, co_X9_moveOn, ⟨by decide +kernel, by decide +kernel⟩, by decide +kernel, by decide⟩
theorem lk_X8_62 : xLk RX8 62 yX8_takeSign cX8_takeSign 2 none 1 := ⟨List.mem_filter.mpr ⟨List.mem_append_right _ (List.mem_of_getElem? (i := 793) (by decide +kernel)), by decide +kernel⟩, in_X8, co_X8_takeSign, ⟨by decide +kernel, by decide +kernel⟩, by decide +kernel, by decide⟩
theorem lk_X8_65 : xLk RX8 65 yX8_fail cX8_fail 2 none 1 := ⟨List.mem_filter.mpr ⟨List.mem_append_right _ (List.mem_of_getElem? (i := 797) (by decide +kernel)), by decide +kernel⟩, in_X8, co_X8_fail, ⟨by decide +kernel, by decide +kernel⟩, by decide +kernel, by decide⟩
theorem lk_X8_71 : xLk RX8 71 yX8_readStatement cX8_readStatement 1 none 0 := ⟨List.mem_filter.mpr ⟨List.mem_append_right _ (List.mem_of_getElem? (i := 801) (by decide +kernel)), by decide +kernel⟩, in_X8, co_X8_readStatement, ⟨by decide +kernel, by decide +kernel⟩, by decide +kernel, by decide⟩
theorem lk_X8_107 : xLk RX8 107 yX8_readGate cX8_readGate 4 none 0 := ⟨List.mem_filter.mpr ⟨List.mem_append_right _ (List.mem_of_getElem? (i := 806) (by decide +kernel)), by decide +kernel⟩, in_X8, co_X8_readGate, ⟨by decide +kernel, by decide +kernel⟩, by decide +kernel, by decide⟩
theorem lk_X8_154 : xLk RX8 154 yX8_takeCounted cX8_takeCounted 3 none 2 := ⟨List.mem_filter.mpr ⟨List.mem_append_right _ (List.mem_of_getElem? (i := 810) (by decide +kernel)), by decide +kernel⟩, in_X8, co_X8_takeCounted, ⟨by decide +kernel, by decide +kernel⟩, by decide +kernel, by decide⟩
theorem lk_X8_127 : xLk RX8 127 yX8_takeNumber cX8_takeNumber 4 (some .int) 2 := ⟨List.mem_filter.mpr ⟨List.mem_append_right _ (List.mem_of_getElem? (i := 814) (by decide +kernel)), by decide +kernel⟩, in_X8, co_X8_takeNumber, ⟨by decide +kernel, by decide +kernel⟩, by decide +kernel, by decide⟩
theorem lk_X8_101 : xLk RX8 101 yX8_numberStands cX8_numberStands 3 (some .boolean) 2 := ⟨List.mem_filter.mpr ⟨List.mem_append_right _ (List.mem_of_getElem? (i := 818) (by decide +kernel)), by decide +kernel⟩, in_X8, co_X8_numberStands, ⟨by decide +kernel, by decide +kernel⟩, by decide +kernel, by decide⟩
theorem lk_X8_158 : xLk RX8 158 yX2_add cX2_add 4 none 3 := ⟨List.mem_filter.mpr ⟨List.mem_append_right _ (List.mem_of_getElem? (i := 822) (by decide +kernel)), by decide +kernel⟩, in_X2, co_X2_add, ⟨by decide +kernel, by decide +kernel⟩, by decide +kernel, by decide⟩
theorem lk_X8_112 : xLk RX8 112 yX8_readFlow cX8_readFlow 2 none 0 := ⟨List.mem_filter.mpr ⟨List.mem_append_right _ (List.mem_of_getElem? (i := 827) (by decide +kernel)), by decide +kernel⟩, in_X8, co_X8_readFlow, ⟨by decide +kernel, by decide +kernel⟩, by decide +kernel, by decide⟩
theorem lk_X8_169 : xLk RX8 169 yX1_open cX1_open 1 none 0 := ⟨List.mem_filter.mpr ⟨List.mem_append_right _ (List.mem_of_getElem? (i := 831) (by decide +kernel)), by decide +kernel⟩, in_X1, co_X1_open, ⟨by decide +kernel, by decide +kernel⟩, by decide +kernel, by decide⟩
theorem lk_X8_171 : xLk RX8 171 yX8_readPlace cX8_readPlace 2 none 1 := ⟨List.mem_filter.mpr ⟨List.mem_append_right _ (List.mem_of_getElem? (i := 835) (by decide +kernel)), by decide +kernel⟩, in_X8, co_X8_readPlace, ⟨by decide +kernel, by decide +kernel⟩, by decide +kernel, by decide⟩
theorem lk_X8_179 : xLk RX8 179 yX1_openRouteHas cX1_openRouteHas 3 (some .boolean) 1 := ⟨List.mem_filter.mpr ⟨List.mem_append_right _ (List.mem_of_getElem? (i := 839) (by decide +kernel)), by decide +kernel⟩, in_X1, co_X1_openRouteHas, ⟨by decide +kernel, by decide +kernel⟩, by decide +kernel, by decide⟩
theorem lk_X1_32 : xLk RX1 32 yX1_gateAt cX1_gateAt 3 (some .int) 2 := ⟨List.mem_filter.mpr ⟨List.mem_append_right _ (List.mem_of_getElem? (i := 843) (by decide +kernel)), by decide +kernel⟩, in_X1, co_X1_gateAt, ⟨by decide +kernel, by decide +kernel⟩, by decide +kernel, by decide⟩
theorem lk_X8_183 : xLk RX8 183 yX1_addPlace cX1_addPlace 2 none 1 := ⟨List.mem_filter.mpr ⟨List.mem_append_right _ (List.mem_of_getElem? (i := 847) (by decide +kernel)), by decide +kernel⟩, in_X1, co_X1_addPlace, ⟨by decide +kernel, by decide +kernel⟩, by decide +kernel, by decide⟩
theorem lk_X8_176 : xLk RX8 176 yX1_close cX1_close 2 none 1 := ⟨List.mem_filter.mpr ⟨List.mem_append_right _ (List.mem_of_getElem? (i := 852) (by decide +kernel)), by decide +kernel⟩, in_X1, co_X1_close, ⟨by decide +kernel, by decide +kernel⟩, by decide +kernel, by decide⟩
theorem lk_X8_117 : xLk RX8 117 yX8_readPacket cX8_readPacket 4 none 0 := ⟨List.mem_filter.mpr ⟨List.mem_append_right _ (List.mem_of_getElem? (i := 857) (by decide +kernel)), by decide +kernel⟩, in_X8, co_X8_readPacket, ⟨by decide +kernel, by decide +kernel⟩, by decide +kernel, by decide⟩
theorem lk_X8_193 : xLk RX8 193 yX5_add cX5_add 4 none 3 := ⟨List.mem_filter.mpr ⟨List.mem_append_right _ (List.mem_of_getElem? (i := 861) (by decide +kernel)), by decide +kernel⟩, in_X5, co_X5_add, ⟨by decide +kernel, by decide +kernel⟩, by decide +kernel, by decide⟩
theorem lk_X8_122 : xLk RX8 122 yX8_readCoupon cX8_readCoupon 4 none 0 := ⟨List.mem_filter.mpr ⟨List.mem_append_right _ (List.mem_of_getElem? (i := 866) (by decide +kernel)), by decide +kernel⟩, in_X8, co_X8_readCoupon, ⟨by decide +kernel, by decide +kernel⟩, by decide +kernel, by decide⟩
theorem lk_X8_201 : xLk RX8 201 yX0_add cX0_add 4 none 3 := ⟨List.mem_filter.mpr ⟨List.mem_append_right _ (List.mem_of_getElem? (i := 870) (by decide +kernel)), by decide +kernel⟩, in_X0, co_X0_add, ⟨by decide +kernel, by decide +kernel⟩, by decide +kernel, by decide⟩
theorem lk_X8_142 : xLk RX8 142 yX8_readSum cX8_readSum 4 none 1 := ⟨List.mem_filter.mpr ⟨List.mem_append_right _ (List.mem_of_getElem? (i := 877) (by decide +kernel)), by decide +kernel⟩, in_X8, co_X8_readSum, ⟨by decide +kernel, by decide +kernel⟩, by decide +kernel, by decide⟩
theorem lk_X8_202 : xLk RX8 202 yX8_readTerm cX8_readTerm 4 none 1 := ⟨List.mem_filter.mpr ⟨List.mem_append_right _ (List.mem_of_getElem? (i := 881) (by decide +kernel)), by decide +kernel⟩, in_X8, co_X8_readTerm, ⟨by decide +kernel, by decide +kernel⟩, by decide +kernel, by decide⟩
theorem lk_X8_211 : xLk RX8 211 yX8_readFactor cX8_readFactor 3 none 1 := ⟨List.mem_filter.mpr ⟨List.mem_append_right _ (List.mem_of_getElem? (i := 885) (by decide +kernel)), by decide +kernel⟩, in_X8, co_X8_readFactor, ⟨by decide +kernel, by decide +kernel⟩, by decide +kernel, by decide⟩
theorem lk_X8_208 : xLk RX8 208 yX8_emit cX8_emit 2 none 1 := ⟨List.mem_filter.mpr ⟨List.mem_append_right _ (List.mem_of_getElem? (i := 892) (by decide +kernel)), by decide +kernel⟩, in_X8, co_X8_emit, ⟨by decide +kernel, by decide +kernel⟩, by decide +kernel, by decide⟩
theorem lk_X8_205 : xLk RX8 205 yX8_isEither cX8_isEither 3 (some .boolean) 2 := ⟨List.mem_filter.mpr ⟨List.mem_append_right _ (List.mem_of_getElem? (i := 896) (by decide +kernel)), by decide +kernel⟩, in_X8, co_X8_isEither, ⟨by decide +kernel, by decide +kernel⟩, by decide +kernel, by decide⟩
theorem lk_X8_74 : xLk RX8 74 yX10_clearLines cX10_clearLines 3 none 0 := ⟨List.mem_filter.mpr ⟨List.mem_append_right _ (List.mem_of_getElem? (i := 900) (by decide +kernel)), by decide +kernel⟩, in_X10, co_X10_clearLines, ⟨by decide +kernel, by decide +kernel⟩, by decide +kernel, by decide⟩
theorem lk_X10_120 : xLk RX10 120 yX4_clear cX4_clear 3 none 2 := ⟨List.mem_filter.mpr ⟨List.mem_append_right _ (List.mem_of_getElem? (i := 904) (by decide +kernel)), by decide +kernel⟩, in_X4, co_X4_clear, ⟨by decide +kernel, by decide +kernel⟩, by decide +kernel, by decide⟩
theorem lk_X8_82 : xLk RX8 82 yJ7_copyOf_59c91 cJ7_copyOf_59c91 3 (some (.array .int)) 2 := ⟨List.mem_filter.mpr ⟨List.mem_append_right _ (List.mem_of_getElem? (i := 909) (by decide +kernel)), by decide +kernel⟩, in_J7, co_J7_copyOf_59c91, ⟨by decide +kernel, by decide +kernel⟩, by decide +kernel, by decide⟩
theorem lj_J7_304 : Cond.methodLink RJ7 304 Lib.Math.min.name ∈ xT := List.mem_filter.mpr ⟨List.mem_append_right _ (List.mem_of_getElem? (i := 914) (by decide +kernel)), by decide +kernel⟩
theorem lj_J7_150 : Cond.methodLink RJ7 150 arraycopyName ∈ xT := List.mem_filter.mpr ⟨List.mem_append_right _ (List.mem_of_getElem? (i := 915) (by decide +kernel)), by decide +kernel⟩
theorem lk_X8_88 : xLk RX8 88 yX7_init cX7_init 2 none 1 := ⟨List.mem_filter.mpr ⟨List.mem_append_right _ (List.mem_of_getElem? (i := 916) (by decide +kernel)), by decide +kernel⟩, in_X7, co_X7_init, ⟨by decide +kernel, by decide +kernel⟩, by decide +kernel, by decide⟩
theorem lk_X11_64 : xLk RX11 64 yX3_keep cX3_keep 3 none 1 := ⟨List.mem_filter.mpr ⟨List.mem_append_right _ (List.mem_of_getElem? (i := 917) (by decide +kernel)), by decide +kernel⟩, in_X3, co_X3_keep, ⟨by decide +kernel, by decide +kernel⟩, by decide +kernel, by decide⟩
theorem lj_X3_33 : Cond.methodLink RX3 33 Lib.Math.min.name ∈ xT := List.mem_filter.mpr ⟨List.mem_append_right _ (List.mem_of_getElem? (i := 921) (by decide +kernel)), by decide +kernel⟩
theorem lk_X11_71 : xLk RX11 71 yX10_copyFrom cX10_copyFrom 2 none 1 := ⟨List.mem_filter.mpr ⟨List.mem_append_right _ (List.mem_of_getElem? (i := 922) (by decide +kernel)), by decide +kernel⟩, in_X10, co_X10_copyFrom, ⟨by decide +kernel, by decide +kernel⟩, by decide +kernel, by decide⟩
theorem lk_L_56 : xLk RL 56 yX11_route cX11_route 4 (some .int) 2 := ⟨List.mem_filter.mpr ⟨List.mem_append_right _ (List.mem_of_getElem? (i := 929) (by decide +kernel)), by decide +kernel⟩, in_X11, co_X11_route, ⟨by decide +kernel, by decide +kernel⟩, by decide +kernel, by decide⟩
theorem lk_X11_135 : xLk RX11 135 yX11_checkFlow cX11_checkFlow 2 none 1 := ⟨List.mem_filter.mpr ⟨List.mem_append_right _ (List.mem_of_getElem? (i := 933) (by decide +kernel)), by decide +kernel⟩, in_X11, co_X11_checkFlow, ⟨by decide +kernel, by decide +kernel⟩, by decide +kernel, by decide⟩
theorem lk_X11_156 : xLk RX11 156 yX1_gateAt cX1_gateAt 3 (some .int) 2 := ⟨List.mem_filter.mpr ⟨List.mem_append_right _ (List.mem_of_getElem? (i := 953) (by decide +kernel)), by decide +kernel⟩, in_X1, co_X1_gateAt, ⟨by decide +kernel, by decide +kernel⟩, by decide +kernel, by decide⟩
theorem lk_L_78 : xLk RL 78 yX11_curve cX11_curve 3 (some .int) 2 := ⟨List.mem_filter.mpr ⟨List.mem_append_right _ (List.mem_of_getElem? (i := 975) (by decide +kernel)), by decide +kernel⟩, in_X11, co_X11_curve, ⟨by decide +kernel, by decide +kernel⟩, by decide +kernel, by decide⟩
theorem lk_X11_122 : xLk RX11 122 yX11_checkGate cX11_checkGate 2 none 1 := ⟨List.mem_filter.mpr ⟨List.mem_append_right _ (List.mem_of_getElem? (i := 979) (by decide +kernel)), by decide +kernel⟩, in_X11, co_X11_checkGate, ⟨by decide +kernel, by decide +kernel⟩, by decide +kernel, by decide⟩
theorem lk_X11_214 : xLk RX11 214 yX11_checkRange cX11_checkRange 4 none 3 := ⟨List.mem_filter.mpr ⟨List.mem_append_right _ (List.mem_of_getElem? (i := 984) (by decide +kernel)), by decide +kernel⟩, in_X11, co_X11_checkRange, ⟨by decide +kernel, by decide +kernel⟩, by decide +kernel, by decide⟩
theorem lk_L_81 : xLk RL 81 yX11_endsAt cX11_endsAt 2 (some .int) 1 := ⟨List.mem_filter.mpr ⟨List.mem_append_right _ (List.mem_of_getElem? (i := 992) (by decide +kernel)), by decide +kernel⟩, in_X11, co_X11_endsAt, ⟨by decide +kernel, by decide +kernel⟩, by decide +kernel, by decide⟩
theorem lk_X11_177 : xLk RX11 177 yX11_checkPacket cX11_checkPacket 2 none 1 := ⟨List.mem_filter.mpr ⟨List.mem_append_right _ (List.mem_of_getElem? (i := 996) (by decide +kernel)), by decide +kernel⟩, in_X11, co_X11_checkPacket, ⟨by decide +kernel, by decide +kernel⟩, by decide +kernel, by decide⟩
theorem lk_X11_228 : xLk RX11 228 yX5_hasEnded cX5_hasEnded 2 (some .boolean) 1 := ⟨List.mem_filter.mpr ⟨List.mem_append_right _ (List.mem_of_getElem? (i := 1001) (by decide +kernel)), by decide +kernel⟩, in_X5, co_X5_hasEnded, ⟨by decide +kernel, by decide +kernel⟩, by decide +kernel, by decide⟩
theorem lk_X11_232 : xLk RX11 232 yX10_advance cX10_advance 5 none 2 := ⟨List.mem_filter.mpr ⟨List.mem_append_right _ (List.mem_of_getElem? (i := 1005) (by decide +kernel)), by decide +kernel⟩, in_X10, co_X10_advance, ⟨by decide +kernel, by decide +kernel⟩, by decide +kernel, by decide⟩
theorem lk_X10_136 : xLk RX10 136 yX5_hasEnded cX5_hasEnded 2 (some .boolean) 1 := ⟨List.mem_filter.mpr ⟨List.mem_append_right _ (List.mem_of_getElem? (i := 1009) (by decide +kernel)), by decide +kernel⟩, in_X5, co_X5_hasEnded, ⟨by decide +kernel, by decide +kernel⟩, by decide +kernel, by decide⟩
theorem lk_X10_140 : xLk RX10 140 yX10_quietTicks cX10_quietTicks 5 (some .int) 1 := ⟨List.mem_filter.mpr ⟨List.mem_append_right _ (List.mem_of_getElem? (i := 1010) (by decide +kernel)), by decide +kernel⟩, in_X10, co_X10_quietTicks, ⟨by decide +kernel, by decide +kernel⟩, by decide +kernel, by decide⟩
theorem lj_X10_154 : Cond.methodLink RX10 154 Lib.Math.min.name ∈ xT := List.mem_filter.mpr ⟨List.mem_append_right _ (List.mem_of_getElem? (i := 1014) (by decide +kernel)), by decide +kernel⟩
theorem lk_X10_162 : xLk RX10 162 yX10_ticksBeforePassage cX10_ticksBeforePassage 10 (some .int) 2 := ⟨List.mem_filter.mpr ⟨List.mem_append_right _ (List.mem_of_getElem? (i := 1015) (by decide +kernel)), by decide +kernel⟩, in_X10, co_X10_ticksBeforePassage, ⟨by decide +kernel, by decide +kernel⟩, by decide +kernel, by decide⟩
theorem lk_X10_168 : xLk RX10 168 yX4_firstIn cX4_firstIn 3 (some .int) 1 := ⟨List.mem_filter.mpr ⟨List.mem_append_right _ (List.mem_of_getElem? (i := 1019) (by decide +kernel)), by decide +kernel⟩, in_X4, co_X4_firstIn, ⟨by decide +kernel, by decide +kernel⟩, by decide +kernel, by decide⟩
theorem lk_X10_177 : xLk RX10 177 yX2_ticksBefore cX2_ticksBefore 4 (some .int) 3 := ⟨List.mem_filter.mpr ⟨List.mem_append_right _ (List.mem_of_getElem? (i := 1023) (by decide +kernel)), by decide +kernel⟩, in_X2, co_X2_ticksBefore, ⟨by decide +kernel, by decide +kernel⟩, by decide +kernel, by decide⟩
theorem lk_X10_181 : xLk RX10 181 yX0_sumOf cX0_sumOf 4 (some .int) 1 := ⟨List.mem_filter.mpr ⟨List.mem_append_right _ (List.mem_of_getElem? (i := 1028) (by decide +kernel)), by decide +kernel⟩, in_X0, co_X0_sumOf, ⟨by decide +kernel, by decide +kernel⟩, by decide +kernel, by decide⟩
theorem lj_X10_165 : Cond.methodLink RX10 165 Lib.Math.max.name ∈ xT := List.mem_filter.mpr ⟨List.mem_append_right _ (List.mem_of_getElem? (i := 1032) (by decide +kernel)), by decide +kernel⟩
theorem lk_X10_144 : xLk RX10 144 yX10_rest cX10_rest 3 none 1 := ⟨List.mem_filter.mpr ⟨List.mem_append_right _ (List.mem_of_getElem? (i := 1033) (by decide +kernel)), by decide +kernel⟩, in_X10, co_X10_rest, ⟨by decide +kernel, by decide +kernel⟩, by decide +kernel, by decide⟩
theorem lk_X10_190 : xLk RX10 190 yX10_refill cX10_refill 6 none 1 := ⟨List.mem_filter.mpr ⟨List.mem_append_right _ (List.mem_of_getElem? (i := 1037) (by decide +kernel)), by decide +kernel⟩, in_X10, co_X10_refill, ⟨by decide +kernel, by decide +kernel⟩, by decide +kernel, by decide⟩
theorem lk_X10_193 : xLk RX10 193 yX10_noteLack cX10_noteLack 7 none 3 := ⟨List.mem_filter.mpr ⟨List.mem_append_right _ (List.mem_of_getElem? (i := 1041) (by decide +kernel)), by decide +kernel⟩, in_X10, co_X10_noteLack, ⟨by decide +kernel, by decide +kernel⟩, by decide +kernel, by decide⟩
theorem lk_X10_148 : xLk RX10 148 yX10_tick cX10_tick 4 none 0 := ⟨List.mem_filter.mpr ⟨List.mem_append_right _ (List.mem_of_getElem? (i := 1045) (by decide +kernel)), by decide +kernel⟩, in_X10, co_X10_tick, ⟨by decide +kernel, by decide +kernel⟩, by decide +kernel, by decide⟩
theorem lk_X10_197 : xLk RX10 197 yX0_removeEnding cX0_removeEnding 4 (some .int) 1 := ⟨List.mem_filter.mpr ⟨List.mem_append_right _ (List.mem_of_getElem? (i := 1049) (by decide +kernel)), by decide +kernel⟩, in_X0, co_X0_removeEnding, ⟨by decide +kernel, by decide +kernel⟩, by decide +kernel, by decide⟩
theorem lk_X0_32 : xLk RX0 32 yX0_removeAt cX0_removeAt 3 none 1 := ⟨List.mem_filter.mpr ⟨List.mem_append_right _ (List.mem_of_getElem? (i := 1053) (by decide +kernel)), by decide +kernel⟩, in_X0, co_X0_removeAt, ⟨by decide +kernel, by decide +kernel⟩, by decide +kernel, by decide⟩
theorem lk_X10_200 : xLk RX10 200 yX10_arrive cX10_arrive 5 none 1 := ⟨List.mem_filter.mpr ⟨List.mem_append_right _ (List.mem_of_getElem? (i := 1057) (by decide +kernel)), by decide +kernel⟩, in_X10, co_X10_arrive, ⟨by decide +kernel, by decide +kernel⟩, by decide +kernel, by decide⟩
theorem lk_X10_132 : xLk RX10 132 yX1_gateAt cX1_gateAt 3 (some .int) 2 := ⟨List.mem_filter.mpr ⟨List.mem_append_right _ (List.mem_of_getElem? (i := 1061) (by decide +kernel)), by decide +kernel⟩, in_X1, co_X1_gateAt, ⟨by decide +kernel, by decide +kernel⟩, by decide +kernel, by decide⟩
theorem lk_X10_215 : xLk RX10 215 yX4_join cX4_join 4 none 2 := ⟨List.mem_filter.mpr ⟨List.mem_append_right _ (List.mem_of_getElem? (i := 1062) (by decide +kernel)), by decide +kernel⟩, in_X4, co_X4_join, ⟨by decide +kernel, by decide +kernel⟩, by decide +kernel, by decide⟩
theorem lk_X10_224 : xLk RX10 224 yX10_refund cX10_refund 4 none 2 := ⟨List.mem_filter.mpr ⟨List.mem_append_right _ (List.mem_of_getElem? (i := 1066) (by decide +kernel)), by decide +kernel⟩, in_X10, co_X10_refund, ⟨by decide +kernel, by decide +kernel⟩, by decide +kernel, by decide⟩
theorem lk_X10_227 : xLk RX10 227 yX0_add cX0_add 4 none 3 := ⟨List.mem_filter.mpr ⟨List.mem_append_right _ (List.mem_of_getElem? (i := 1070) (by decide +kernel)), by decide +kernel⟩, in_X0, co_X0_add, ⟨by decide +kernel, by decide +kernel⟩, by decide +kernel, by decide⟩
theorem lk_X10_203 : xLk RX10 203 yX10_openGate cX10_openGate 8 none 2 := ⟨List.mem_filter.mpr ⟨List.mem_append_right _ (List.mem_of_getElem? (i := 1071) (by decide +kernel)), by decide +kernel⟩, in_X10, co_X10_openGate, ⟨by decide +kernel, by decide +kernel⟩, by decide +kernel, by decide⟩
theorem lk_X10_230 : xLk RX10 230 yX4_leave cX4_leave 3 none 1 := ⟨List.mem_filter.mpr ⟨List.mem_append_right _ (List.mem_of_getElem? (i := 1075) (by decide +kernel)), by decide +kernel⟩, in_X4, co_X4_leave, ⟨by decide +kernel, by decide +kernel⟩, by decide +kernel, by decide⟩
theorem lk_X4_31 : xLk RX4 31 yX4_firstIn cX4_firstIn 3 (some .int) 1 := ⟨List.mem_filter.mpr ⟨List.mem_append_right _ (List.mem_of_getElem? (i := 1079) (by decide +kernel)), by decide +kernel⟩, in_X4, co_X4_firstIn, ⟨by decide +kernel, by decide +kernel⟩, by decide +kernel, by decide⟩
theorem lk_X10_233 : xLk RX10 233 yX10_passGate cX10_passGate 6 none 4 := ⟨List.mem_filter.mpr ⟨List.mem_append_right _ (List.mem_of_getElem? (i := 1080) (by decide +kernel)), by decide +kernel⟩, in_X10, co_X10_passGate, ⟨by decide +kernel, by decide +kernel⟩, by decide +kernel, by decide⟩
theorem lk_X10_237 : xLk RX10 237 yX0_spend cX0_spend 6 none 2 := ⟨List.mem_filter.mpr ⟨List.mem_append_right _ (List.mem_of_getElem? (i := 1084) (by decide +kernel)), by decide +kernel⟩, in_X0, co_X0_spend, ⟨by decide +kernel, by decide +kernel⟩, by decide +kernel, by decide⟩
theorem lk_X0_36 : xLk RX0 36 yX0_firstToEnd cX0_firstToEnd 4 (some .int) 1 := ⟨List.mem_filter.mpr ⟨List.mem_append_right _ (List.mem_of_getElem? (i := 1088) (by decide +kernel)), by decide +kernel⟩, in_X0, co_X0_firstToEnd, ⟨by decide +kernel, by decide +kernel⟩, by decide +kernel, by decide⟩
theorem lk_X10_243 : xLk RX10 243 yX7_valueFor cX7_valueFor 8 (some .int) 4 := ⟨List.mem_filter.mpr ⟨List.mem_append_right _ (List.mem_of_getElem? (i := 1092) (by decide +kernel)), by decide +kernel⟩, in_X7, co_X7_valueFor, ⟨by decide +kernel, by decide +kernel⟩, by decide +kernel, by decide⟩
theorem lk_X7_18 : xLk RX7 18 yX7_combine cX7_combine 7 (some .int) 3 := ⟨List.mem_filter.mpr ⟨List.mem_append_right _ (List.mem_of_getElem? (i := 1096) (by decide +kernel)), by decide +kernel⟩, in_X7, co_X7_combine, ⟨by decide +kernel, by decide +kernel⟩, by decide +kernel, by decide⟩
theorem lj_X7_35 : Cond.methodLink RX7 35 Lib.MathLoose.min_long.x ∈ xT := List.mem_filter.mpr ⟨List.mem_append_right _ (List.mem_of_getElem? (i := 1101) (by decide +kernel)), by decide +kernel⟩
theorem lj_X7_38 : Cond.methodLink RX7 38 Lib.MathLoose.max_long.x ∈ xT := List.mem_filter.mpr ⟨List.mem_append_right _ (List.mem_of_getElem? (i := 1102) (by decide +kernel)), by decide +kernel⟩
theorem lj_X7_22 : Cond.methodLink RX7 22 Lib.Math.min.name ∈ xT := List.mem_filter.mpr ⟨List.mem_append_right _ (List.mem_of_getElem? (i := 1103) (by decide +kernel)), by decide +kernel⟩
theorem lj_X7_28 : Cond.methodLink RX7 28 Lib.Math.max.name ∈ xT := List.mem_filter.mpr ⟨List.mem_append_right _ (List.mem_of_getElem? (i := 1104) (by decide +kernel)), by decide +kernel⟩
theorem lk_X10_247 : xLk RX10 247 yX6_add cX6_add 7 none 5 := ⟨List.mem_filter.mpr ⟨List.mem_append_right _ (List.mem_of_getElem? (i := 1105) (by decide +kernel)), by decide +kernel⟩, in_X6, co_X6_add, ⟨by decide +kernel, by decide +kernel⟩, by decide +kernel, by decide⟩
theorem lk_L_87 : xLk RL 87 yX11_help cX11_help 6 (some .int) 1 := ⟨List.mem_filter.mpr ⟨List.mem_append_right _ (List.mem_of_getElem? (i := 1112) (by decide +kernel)), by decide +kernel⟩, in_X11, co_X11_help, ⟨by decide +kernel, by decide +kernel⟩, by decide +kernel, by decide⟩
theorem lk_X11_236 : xLk RX11 236 yX0_add cX0_add 4 none 3 := ⟨List.mem_filter.mpr ⟨List.mem_append_right _ (List.mem_of_getElem? (i := 1116) (by decide +kernel)), by decide +kernel⟩, in_X0, co_X0_add, ⟨by decide +kernel, by decide +kernel⟩, by decide +kernel, by decide⟩
theorem lj_X11_245 : Cond.methodLink RX11 245 Lib.Math.max.name ∈ xT := List.mem_filter.mpr ⟨List.mem_append_right _ (List.mem_of_getElem? (i := 1117) (by decide +kernel)), by decide +kernel⟩
theorem lk_L_90 : xLk RL 90 yX11_pass cX11_pass 3 (some .int) 1 := ⟨List.mem_filter.mpr ⟨List.mem_append_right _ (List.mem_of_getElem? (i := 1121) (by decide +kernel)), by decide +kernel⟩, in_X11, co_X11_pass, ⟨by decide +kernel, by decide +kernel⟩, by decide +kernel, by decide⟩
theorem lk_X11_107 : xLk RX11 107 yX5_countIn cX5_countIn 4 (some .int) 1 := ⟨List.mem_filter.mpr ⟨List.mem_append_right _ (List.mem_of_getElem? (i := 1125) (by decide +kernel)), by decide +kernel⟩, in_X5, co_X5_countIn, ⟨by decide +kernel, by decide +kernel⟩, by decide +kernel, by decide⟩
theorem lk_L_93 : xLk RL 93 yX11_forward cX11_forward 5 (some .int) 2 := ⟨List.mem_filter.mpr ⟨List.mem_append_right _ (List.mem_of_getElem? (i := 1132) (by decide +kernel)), by decide +kernel⟩, in_X11, co_X11_forward, ⟨by decide +kernel, by decide +kernel⟩, by decide +kernel, by decide⟩
theorem lk_X11_201 : xLk RX11 201 yX11_checkCoupon cX11_checkCoupon 2 none 1 := ⟨List.mem_filter.mpr ⟨List.mem_append_right _ (List.mem_of_getElem? (i := 1136) (by decide +kernel)), by decide +kernel⟩, in_X11, co_X11_checkCoupon, ⟨by decide +kernel, by decide +kernel⟩, by decide +kernel, by decide⟩
theorem lk_L_96 : xLk RL 96 yX11_grant cX11_grant 4 (some .int) 3 := ⟨List.mem_filter.mpr ⟨List.mem_append_right _ (List.mem_of_getElem? (i := 1145) (by decide +kernel)), by decide +kernel⟩, in_X11, co_X11_grant, ⟨by decide +kernel, by decide +kernel⟩, by decide +kernel, by decide⟩
theorem lk_L_102 : xLk RL 102 yX11_send cX11_send 3 (some .int) 2 := ⟨List.mem_filter.mpr ⟨List.mem_append_right _ (List.mem_of_getElem? (i := 1169) (by decide +kernel)), by decide +kernel⟩, in_X11, co_X11_send, ⟨by decide +kernel, by decide +kernel⟩, by decide +kernel, by decide⟩
theorem lk_X11_255 : xLk RX11 255 yX5_add cX5_add 4 none 3 := ⟨List.mem_filter.mpr ⟨List.mem_append_right _ (List.mem_of_getElem? (i := 1174) (by decide +kernel)), by decide +kernel⟩, in_X5, co_X5_add, ⟨by decide +kernel, by decide +kernel⟩, by decide +kernel, by decide⟩
theorem lk_L_105 : xLk RL 105 yX11_setThrift cX11_setThrift 4 (some .int) 2 := ⟨List.mem_filter.mpr ⟨List.mem_append_right _ (List.mem_of_getElem? (i := 1178) (by decide +kernel)), by decide +kernel⟩, in_X11, co_X11_setThrift, ⟨by decide +kernel, by decide +kernel⟩, by decide +kernel, by decide⟩
theorem lk_L_137 : xLk RL 137 yL_with cL_with 4 (some (.array (array .int)) 2 := ⟨List.mem_filter.mpr ⟨List.mem_append_right _ (List.mem_of_getElem? (i := 1182) (by decide +kernel)), by decide +kernel⟩, in_L, co_L_with, ⟨by decide +kernel, by decide +kernel⟩, by decide +kernel, by decide⟩
theorem lk_L_248 : xLk RL 248 yL_randomRoad cL_randomRoad 9 (some (.object "PacketTollLaw$Road")) 3 := ⟨List.mem_filter.mpr ⟨List.mem_append_right _ (List.mem_of_getElem? (i := 1183) (by decide +kernel)), by decide +kernel⟩, in_L, co_L_randomRoad, ⟨by decide +kernel, by decide +kernel⟩, by decide +kernel, by decide⟩
theorem lk_L_114 : xLk RL 114 yL_write cL_write 4 none 3 := ⟨List.mem_filter.mpr ⟨List.mem_append_right _ (List.mem_of_getElem? (i := 1187) (by decide +kernel)), by decide +kernel⟩, in_L, co_L_write, ⟨by decide +kernel, by decide +kernel⟩, by decide +kernel, by decide⟩
theorem lk_L_23 : xLk RL 23 yJ0_length_8abf5 cJ0_length_8abf5 1 (some .int) 0 := ⟨List.mem_filter.mpr ⟨List.mem_append_right _ (List.mem_of_getElem? (i := 1190) (by decide +kernel)), by decide +kernel⟩, in_J0, co_J0_length_8abf5, ⟨by decide +kernel, by decide +kernel⟩, by decide +kernel, by decide⟩
theorem lk_L_29 : xLk RL 29 yJ0_charAt_5068e cJ0_charAt_5068e 2 (some .char) 1 := ⟨List.mem_filter.mpr ⟨List.mem_append_right _ (List.mem_of_getElem? (i := 1191) (by decide +kernel)), by decide +kernel⟩, in_J0, co_J0_charAt_5068e, ⟨by decide +kernel, by decide +kernel⟩, by decide +kernel, by decide⟩
theorem lk_L_33 : xLk RL 33 yL_put cL_put 3 none 3 := ⟨List.mem_filter.mpr ⟨List.mem_append_right _ (List.mem_of_getElem? (i := 1192) (by decide +kernel)), by decide +kernel⟩, in_L, co_L_put, ⟨by decide +kernel, by decide +kernel⟩, by decide +kernel, by decide⟩
theorem lk_L_7 : xLk RL 7 yL_flush cL_flush 3 none 2 := ⟨List.mem_filter.mpr ⟨List.mem_append_right _ (List.mem_of_getElem? (i := 1195) (by decide +kernel)), by decide +kernel⟩, in_L, co_L_flush, ⟨by decide +kernel, by decide +kernel⟩, by decide +kernel, by decide⟩
theorem lk_L_13 : xLk RL 13 yX11_append cX11_append 7 (some .int) 5 := ⟨List.mem_filter.mpr ⟨List.mem_append_right _ (List.mem_of_getElem? (i := 1198) (by decide +kernel)), by decide +kernel⟩, in_X11, co_X11_append, ⟨by decide +kernel, by decide +kernel⟩, by decide +kernel, by decide⟩
theorem lk_X11_46 : xLk RX11 46 yX9_put cX9_put 3 none 1 := ⟨List.mem_filter.mpr ⟨List.mem_append_right _ (List.mem_of_getElem? (i := 1202) (by decide +kernel)), by decide +kernel⟩, in_X9, co_X9_put, ⟨by decide +kernel, by decide +kernel⟩, by decide +kernel, by decide⟩
theorem lk_L_142 : xLk RL 142 yL_writeNumbers cL_writeNumbers 8 none 4 := ⟨List.mem_filter.mpr ⟨List.mem_append_right _ (List.mem_of_getElem? (i := 1207) (by decide +kernel)), by decide +kernel⟩, in_L, co_L_writeNumbers, ⟨by decide +kernel, by decide +kernel⟩, by decide +kernel, by decide⟩
theorem lk_L_120 : xLk RL 120 yL_writeNumber cL_writeNumber 4 none 3 := ⟨List.mem_filter.mpr ⟨List.mem_append_right _ (List.mem_of_getElem? (i := 1211) (by decide +kernel)), by decide +kernel⟩, in_L, co_L_writeNumber, ⟨by decide +kernel, by decide +kernel⟩, by decide +kernel, by decide⟩
theorem lk_L_177 : xLk RL 177 yX12_random cX12_random 3 (some (.object "PacketTollLaw$Node")) 2 := ⟨List.mem_filter.mpr ⟨List.mem_append_right _ (List.mem_of_getElem? (i := 1221) (by decide +kernel)), by decide +kernel⟩, in_X12, co_X12_random, ⟨by decide +kernel, by decide +kernel⟩, by decide +kernel, by decide⟩
theorem lk_X12_9 : xLk RX12 9 yX12_init cX12_init 1 none 0 := ⟨List.mem_filter.mpr ⟨List.mem_append_right _ (List.mem_of_getElem? (i := 1226) (by decide +kernel)), by decide +kernel⟩, in_X12, co_X12_init, ⟨by decide +kernel, by decide +kernel⟩, by decide +kernel, by decide⟩
theorem lj_X12_1 : Cond.methodLink RX12 1 objectInit ∈ xT := List.mem_filter.mpr ⟨List.mem_append_right _ (List.mem_of_getElem? (i := 1229) (by decide +kernel)), by decide +kernel⟩
theorem fd_X12_16 : xFd RX12 16 12 0 RX12 TX12 4 := ⟨rfl, by decide, by decide, List.mem_filter.mpr ⟨List.mem_append_right _ (List.mem_of_getElem? (i := 1230) (by decide +kernel)), by decide +kernel⟩, rfl, rfl, uw_X12⟩
theorem fd_X12_20 : xFd RX12 20 12 1 RX12 TX12 4 := ⟨rfl, by decide, by decide, List.mem_filter.mpr ⟨List.mem_append_right _ (List.mem_of_getElem? (i := 1231) (by decide +kernel)), by decide +kernel⟩, rfl, rfl, uw_X12⟩
theorem fd_X12_27 : xFd RX12 27 12 2 RX12 TX12 4 := ⟨rfl, by decide, by decide, List.mem_filter.mpr ⟨List.mem_append_right _ (List.mem_of_getElem? (i := 1232) (by decide +kernel)), by decide +kernel⟩, rfl, rfl, uw_X12⟩
theorem fd_X12_31 : xFd RX12 31 12 3 RX12 TX12 4 := ⟨rfl, by decide, by decide, List.mem_filter.mpr ⟨List.mem_append_right _ (List.mem_of_getElem? (i := 1233) (by decide +kernel)), by decide +kernel⟩, rfl, rfl, uw_X12⟩
theorem lk_X12_10 : xLk RX12 10 yX13_below cX13_below 2 (some .int) 1 := ⟨List.mem_filter.mpr ⟨List.mem_append_right _ (List.mem_of_getElem? (i := 1243) (by decide +kernel)), by decide +kernel⟩, in_X13, co_X13_below, ⟨by decide +kernel, by decide +kernel⟩, by decide +kernel, by decide⟩
theorem lk_X12_23 : xLk RX12 23 yX12_random cX12_random 3 (some (.object "PacketTollLaw$Node")) 2 := ⟨List.mem_filter.mpr ⟨List.mem_append_right _ (List.mem_of_getElem? (i := 1244) (by decide +kernel)), by decide +kernel⟩, in_X12, co_X12_random, ⟨by decide +kernel, by decide +kernel⟩, by decide +kernel, by decide⟩
theorem lk_L_189 : xLk RL 189 yX12_text cX12_text 4 (some (.object "java/lang/String")) 1 := ⟨List.mem_filter.mpr ⟨List.mem_append_right _ (List.mem_of_getElem? (i := 1246) (by decide +kernel)), by decide +kernel⟩, in_X12, co_X12_text, ⟨by decide +kernel, by decide +kernel⟩, by decide +kernel, by decide⟩
theorem lk_X12_36 : xLk RX12 36 yJ4_init_da8c8 cJ4_init_da8c8 1 none 0 := ⟨List.mem_filter.mpr ⟨List.mem_append_right _ (List.mem_of_getElem? (i := 1252) (by decide +kernel)), by decide +kernel⟩, in_J4, co_J4_init_da8c8, ⟨by decide +kernel, by decide +kernel⟩, by decide +kernel, by decide⟩
theorem lk_J4_1 : xLk RJ4 1 yJ5_init_d00df cJ5_init_d00df 2 none 1 := ⟨List.mem_filter.mpr ⟨List.mem_append_right _ (List.mem_of_getElem? (i := 1255) (by decide +kernel)), by decide +kernel⟩, in_J5, co_J5_init_d00df, ⟨by decide +kernel, by decide +kernel⟩, by decide +kernel, by decide⟩
theorem lj_J5_3 : Cond.methodLink RJ5 3 objectInit ∈ xT := List.mem_filter.mpr ⟨List.mem_append_right _ (List.mem_of_getElem? (i := 1258) (by decide +kernel)), by decide +kernel⟩
theorem lk_J5_26 : xLk RJ5 26 yJ2_newBytesFor_77867 cJ2_newBytesFor_77867 1 (some (.array byte)) 1 := ⟨List.mem_filter.mpr ⟨List.mem_append_right _ (List.mem_of_getElem? (i := 1260) (by decide +kernel)), by decide +kernel⟩, in_J2, co_J2_newBytesFor_77867, ⟨by decide +kernel, by decide +kernel⟩, by decide +kernel, by decide⟩
theorem lk_J2_11 : xLk RJ2 11 yJ2_newBytesLength_0f7a4 cJ2_newBytesLength_0f7a4 1 (some .int) 1 := ⟨List.mem_filter.mpr ⟨List.mem_append_right _ (List.mem_of_getElem? (i := 1263) (by decide +kernel)), by decide +kernel⟩, in_J2, co_J2_newBytesLength_0f7a4, ⟨by decide +kernel, by decide +kernel⟩, by decide +kernel, by decide⟩
theorem fd_J5_15 : xFd RJ5 15 22 0 RJ4 TJ4 4 := ⟨rfl, by decide, by decide, List.mem_filter.mpr ⟨List.mem_append_right _ (List.mem_of_getElem? (i := 1267) (by decide +kernel)), by decide +kernel⟩, rfl, rfl, uw_J4⟩
theorem fd_J5_22 : xFd RJ5 22 22 1 RJ4 TJ4 4 := ⟨rfl, by decide, by decide, List.mem_filter.mpr ⟨List.mem_append_right _ (List.mem_of_getElem? (i := 1268) (by decide +kernel)), by decide +kernel⟩, rfl, rfl, uw_J4⟩
theorem fd_J0_1048 : xFd RJ0 1048 22 2 RJ4 TJ4 4 := ⟨rfl, by decide, by decide, List.mem_filter.mpr ⟨List.mem_append_right _ (List.mem_of_getElem? (i := 1269) (by decide +kernel)), by decide +kernel⟩, rfl, rfl, uw_J4⟩
theorem fd_J5_79 : xFd RJ5 79 22 3 RJ4 TJ4 4 := ⟨rfl, by decide, by decide, List.mem_filter.mpr ⟨List.mem_append_right _ (List.mem_of_getElem? (i := 1270) (by decide +kernel)), by decide +kernel⟩, rfl, rfl, uw_J4⟩
theorem lk_X12_39 : xLk RX12 39 yJ4_append_15ec4 cJ4_append_15ec4 2 (some (.object "java/lang/StringBuilder")) 1 := ⟨List.mem_filter.mpr ⟨List.mem_append_right _ (List.mem_of_getElem? (i := 1281) (by decide +kernel)), by decide +kernel⟩, in_J4, co_J4_append_15ec4, ⟨by decide +kernel, by decide +kernel⟩, by decide +kernel, by decide⟩
theorem lk_J4_29 : xLk RJ4 29 yJ5_append_cf1ce cJ5_append_cf1ce 3 (some (.object "java/lang/AbstractStringBuilder")) 1 := ⟨List.mem_filter.mpr ⟨List.mem_append_right _ (List.mem_of_getElem? (i := 1285) (by decide +kernel)), by decide +kernel⟩, in_J5, co_J5_append_cf1ce, ⟨by decide +kernel, by decide +kernel⟩, by decide +kernel, by decide⟩
theorem lk_J5_204 : xLk RJ5 204 yJ5_appendNull_278bc cJ5_appendNull_278bc 3 (some (.object "java/lang/AbstractStringBuilder")) 0 := ⟨List.mem_filter.mpr ⟨List.mem_append_right _ (List.mem_of_getElem? (i := 1288) (by decide +kernel)), by decide +kernel⟩, in_J5, co_J5_appendNull_278bc, ⟨by decide +kernel, by decide +kernel⟩, by decide +kernel, by decide⟩
theorem lk_J5_100 : xLk RJ5 100 yJ5_ensureCapacityInternal_d00df cJ5_ensureCapacityInternal_d00df 3 none 1 := ⟨List.mem_filter.mpr ⟨List.mem_append_right _ (List.mem_of_getElem? (i := 1292) (by decide +kernel)), by decide +kernel⟩, in_J5, co_J5_ensureCapacityInternal_d00df, ⟨by decide +kernel, by decide +kernel⟩, by decide +kernel, by decide⟩
theorem lk_J5_104 : xLk RJ5 104 yJ5_newCapacity_0f7a4 cJ5_newCapacity_0f7a4 6 (some .int) 1 := ⟨List.mem_filter.mpr ⟨List.mem_append_right _ (List.mem_of_getElem? (i := 1296) (by decide +kernel)), by decide +kernel⟩, in_J5, co_J5_newCapacity_0f7a4, ⟨by decide +kernel, by decide +kernel⟩, by decide +kernel, by decide⟩
theorem lk_J5_114 : xLk RJ5 114 yJ8_newLength_cabcc cJ8_newLength_cabcc 4 (some .int) 3 := ⟨List.mem_filter.mpr ⟨List.mem_append_right _ (List.mem_of_getElem? (i := 1300) (by decide +kernel)), by decide +kernel⟩, in_J8, co_J8_newLength_cabcc, ⟨by decide +kernel, by decide +kernel⟩, by decide +kernel, by decide⟩
theorem lj_J8_194 : Cond.methodLink RJ8 194 Lib.Math.max.name ∈ xT := List.mem_filter.mpr ⟨List.mem_append_right _ (List.mem_of_getElem? (i := 1303) (by decide +kernel)), by decide +kernel⟩
theorem lk_J8_201 : xLk RJ8 201 yJ8_hugeLength_7cf53 cJ8_hugeLength_7cf53 3 (some .int) 2 := ⟨List.mem_filter.mpr ⟨List.mem_append_right _ (List.mem_of_getElem? (i := 1305) (by decide +kernel)), by decide +kernel⟩, in_J8, co_J8_hugeLength_7cf53, ⟨by decide +kernel, by decide +kernel⟩, by decide +kernel, by decide⟩
theorem lk_J5_108 : xLk RJ5 108 yJ7_copyOf_9075b cJ7_copyOf_9075b 3 (some (.array byte)) 2 := ⟨List.mem_filter.mpr ⟨List.mem_append_right _ (List.mem_of_getElem? (i := 1309) (by decide +kernel)), by decide +kernel⟩, in_J7, co_J7_copyOf_9075b, ⟨by decide +kernel, by decide +kernel⟩, by decide +kernel, by decide⟩
theorem lk_J5_83 : xLk RJ5 83 yJ5_isLatin1_aae02 cJ5_isLatin1_aae02 1 (some .boolean) 0 := ⟨List.mem_filter.mpr ⟨List.mem_append_right _ (List.mem_of_getElem? (i := 1317) (by decide +kernel)), by decide +kernel⟩, in_J5, co_J5_isLatin1_aae02, ⟨by decide +kernel, by decide +kernel⟩, by decide +kernel, by decide⟩
theorem lk_J5_226 : xLk RJ5 226 yJ2_putCharsAt_cd4e5 cJ2_putCharsAt_cd4e5 7 (some .int) 6 := ⟨List.mem_filter.mpr ⟨List.mem_append_right _ (List.mem_of_getElem? (i := 1322) (by decide +kernel)), by decide +kernel⟩, in_J2, co_J2_putCharsAt_cd4e5, ⟨by decide +kernel, by decide +kernel⟩, by decide +kernel, by decide⟩
theorem lk_J2_96 : xLk RJ2 96 yJ2_checkBoundsBeginEnd_d044e cJ2_checkBoundsBeginEnd_d044e 3 none 3 := ⟨List.mem_filter.mpr ⟨List.mem_append_right _ (List.mem_of_getElem? (i := 1325) (by decide +kernel)), by decide +kernel⟩, in_J2, co_J2_checkBoundsBeginEnd_d044e, ⟨by decide +kernel, by decide +kernel⟩, by decide +kernel, by decide⟩
theorem lk_J2_241 : xLk RJ2 241 yJ0_checkBoundsBeginEnd_23922 cJ0_checkBoundsBeginEnd_23922 3 none 3 := ⟨List.mem_filter.mpr ⟨List.mem_append_right _ (List.mem_of_getElem? (i := 1328) (by decide +kernel)), by decide +kernel⟩, in_J0, co_J0_checkBoundsBeginEnd_23922, ⟨by decide +kernel, by decide +kernel⟩, by decide +kernel, by decide⟩
theorem lk_J0_1062 : xLk RJ0 1062 yJ3_checkFromToIndex_8c36e cJ3_checkFromToIndex_8c36e 4 (some .int) 4 := ⟨List.mem_filter.mpr ⟨List.mem_append_right _ (List.mem_of_getElem? (i := 1331) (by decide +kernel)), by decide +kernel⟩, in_J3, co_J3_checkFromToIndex_8c36e, ⟨by decide +kernel, by decide +kernel⟩, by decide +kernel, by decide⟩
theorem lk_J2_111 : xLk RJ2 111 yJ2_putChar_b72d1 cJ2_putChar_b72d1 3 none 3 := ⟨List.mem_filter.mpr ⟨List.mem_append_right _ (List.mem_of_getElem? (i := 1334) (by decide +kernel)), by decide +kernel⟩, in_J2, co_J2_putChar_b72d1, ⟨by decide +kernel, by decide +kernel⟩, by decide +kernel, by decide⟩
theorem lk_J5_32 : xLk RJ5 32 yJ0_length_8abf5 cJ0_length_8abf5 1 (some .int) 0 := ⟨List.mem_filter.mpr ⟨List.mem_append_right _ (List.mem_of_getElem? (i := 1337) (by decide +kernel)), by decide +kernel⟩, in_J0, co_J0_length_8abf5, ⟨by decide +kernel, by decide +kernel⟩, by decide +kernel, by decide⟩
theorem lk_J5_208 : xLk RJ5 208 yJ5_putStringAt_47b60 cJ5_putStringAt_47b60 3 none 2 := ⟨List.mem_filter.mpr ⟨List.mem_append_right _ (List.mem_of_getElem? (i := 1338) (by decide +kernel)), by decide +kernel⟩, in_J5, co_J5_putStringAt_47b60, ⟨by decide +kernel, by decide +kernel⟩, by decide +kernel, by decide⟩
theorem lk_J5_397 : xLk RJ5 397 yJ5_inflateIfNeededFor_a7421 cJ5_inflateIfNeededFor_a7421 2 none 1 := ⟨List.mem_filter.mpr ⟨List.mem_append_right _ (List.mem_of_getElem? (i := 1342) (by decide +kernel)), by decide +kernel⟩, in_J5, co_J5_inflateIfNeededFor_a7421, ⟨by decide +kernel, by decide +kernel⟩, by decide +kernel, by decide⟩
theorem lk_J5_40 : xLk RJ5 40 yJ0_coder_7d493 cJ0_coder_7d493 1 (some .byte) 0 := ⟨List.mem_filter.mpr ⟨List.mem_append_right _ (List.mem_of_getElem? (i := 1346) (by decide +kernel)), by decide +kernel⟩, in_J0, co_J0_coder_7d493, ⟨by decide +kernel, by decide +kernel⟩, by decide +kernel, by decide⟩
theorem lk_J5_195 : xLk RJ5 195 yJ5_inflate_da8c8 cJ5_inflate_da8c8 2 none 0 := ⟨List.mem_filter.mpr ⟨List.mem_append_right _ (List.mem_of_getElem? (i := 1347) (by decide +kernel)), by decide +kernel⟩, in_J5, co_J5_inflate_da8c8, ⟨by decide +kernel, by decide +kernel⟩, by decide +kernel, by decide⟩
theorem lk_J5_125 : xLk RJ5 125 yJ1_inflate_0e8fd cJ1_inflate_0e8fd 5 none 5 := ⟨List.mem_filter.mpr ⟨List.mem_append_right _ (List.mem_of_getElem? (i := 1351) (by decide +kernel)), by decide +kernel⟩, in_J1, co_J1_inflate_0e8fd, ⟨by decide +kernel, by decide +kernel⟩, by decide +kernel, by decide⟩
theorem lk_J1_240 : xLk RJ1 240 yJ2_inflate_0e8fd cJ2_inflate_0e8fd 6 none 5 := ⟨List.mem_filter.mpr ⟨List.mem_append_right _ (List.mem_of_getElem? (i := 1354) (by decide +kernel)), by decide +kernel⟩, in_J2, co_J2_inflate_0e8fd, ⟨by decide +kernel, by decide +kernel⟩, by decide +kernel, by decide⟩
theorem lk_J2_173 : xLk RJ2 173 yJ2_checkBoundsOffCount_d044e cJ2_checkBoundsOffCount_d044e 3 none 3 := ⟨List.mem_filter.mpr ⟨List.mem_append_right _ (List.mem_of_getElem? (i := 1357) (by decide +kernel)), by decide +kernel⟩, in_J2, co_J2_checkBoundsOffCount_d044e, ⟨by decide +kernel, by decide +kernel⟩, by decide +kernel, by decide⟩
theorem lk_J2_419 : xLk RJ2 419 yJ0_checkBoundsOffCount_cabcc cJ0_checkBoundsOffCount_cabcc 3 (some .int) 3 := ⟨List.mem_filter.mpr ⟨List.mem_append_right _ (List.mem_of_getElem? (i := 1360) (by decide +kernel)), by decide +kernel⟩, in_J0, co_J0_checkBoundsOffCount_cabcc, ⟨by decide +kernel, by decide +kernel⟩, by decide +kernel, by decide⟩
theorem lk_J0_1065 : xLk RJ0 1065 yJ3_checkFromIndexSize_8c36e cJ3_checkFromIndexSize_8c36e 4 (some .int) 4 := ⟨List.mem_filter.mpr ⟨List.mem_append_right _ (List.mem_of_getElem? (i := 1363) (by decide +kernel)), by decide +kernel⟩, in_J3, co_J3_checkFromIndexSize_8c36e, ⟨by decide +kernel, by decide +kernel⟩, by decide +kernel, by decide⟩
theorem lk_J5_399 : xLk RJ5 399 yJ0_getBytes_840e7 cJ0_getBytes_840e7 4 none 3 := ⟨List.mem_filter.mpr ⟨List.mem_append_right _ (List.mem_of_getElem? (i := 1366) (by decide +kernel)), by decide +kernel⟩, in_J0, co_J0_getBytes_840e7, ⟨by decide +kernel, by decide +kernel⟩, by decide +kernel, by decide⟩
theorem lj_J0_212 : Cond.methodLink RJ0 212 arraycopyName ∈ xT := List.mem_filter.mpr ⟨List.mem_append_right _ (List.mem_of_getElem? (i := 1370) (by decide +kernel)), by decide +kernel⟩
theorem lk_J0_106 : xLk RJ0 106 yJ1_inflate_0e8fd cJ1_inflate_0e8fd 5 none 5 := ⟨List.mem_filter.mpr ⟨List.mem_append_right _ (List.mem_of_getElem? (i := 1371) (by decide +kernel)), by decide +kernel⟩, in_J1, co_J1_inflate_0e8fd, ⟨by decide +kernel, by decide +kernel⟩, by decide +kernel, by decide⟩
theorem lk_X12_43 : xLk RX12 43 yJ4_append_bf812 cJ4_append_bf812 2 (some (.object "java/lang/StringBuilder")) 1 := ⟨List.mem_filter.mpr ⟨List.mem_append_right _ (List.mem_of_getElem? (i := 1372) (by decide +kernel)), by decide +kernel⟩, in_J4, co_J4_append_bf812, ⟨by decide +kernel, by decide +kernel⟩, by decide +kernel, by decide⟩
theorem lk_J4_53 : xLk RJ4 53 yJ5_append_c97b9 cJ5_append_c97b9 4 (some (.object "java/lang/AbstractStringBuilder")) 1 := ⟨List.mem_filter.mpr ⟨List.mem_append_right _ (List.mem_of_getElem? (i := 1376) (by decide +kernel)), by decide +kernel⟩, in_J5, co_J5_append_c97b9, ⟨by decide +kernel, by decide +kernel⟩, by decide +kernel, by decide⟩
theorem lk_J5_245 : xLk RJ5 245 yJ6_stringSize_0f7a4 cJ6_stringSize_0f7a4 4 (some .int) 1 := ⟨List.mem_filter.mpr ⟨List.mem_append_right _ (List.mem_of_getElem? (i := 1379) (by decide +kernel)), by decide +kernel⟩, in_J6, co_J6_stringSize_0f7a4, ⟨by decide +kernel, by decide +kernel⟩, by decide +kernel, by decide⟩
theorem lk_J5_248 : xLk RJ5 248 yJ6_getChars_ba4f3 cJ6_getChars_ba4f3 7 (some .int) 3 := ⟨List.mem_filter.mpr ⟨List.mem_append_right _ (List.mem_of_getElem? (i := 1382) (by decide +kernel)), by decide +kernel⟩, in_J6, co_J6_getChars_ba4f3, ⟨by decide +kernel, by decide +kernel⟩, by decide +kernel, by decide⟩
theorem lk_J5_251 : xLk RJ5 251 yJ2_getChars_46870 cJ2_getChars_46870 5 (some .int) 4 := ⟨List.mem_filter.mpr ⟨List.mem_append_right _ (List.mem_of_getElem? (i := 1389) (by decide +kernel)), by decide +kernel⟩, in_J2, co_J2_getChars_46870, ⟨by decide +kernel, by decide +kernel⟩, by decide +kernel, by decide⟩
theorem lk_J2_393 : xLk RJ2 393 yJ2_getChars_ba4f3 cJ2_getChars_ba4f3 7 (some .int) 3 := ⟨List.mem_filter.mpr ⟨List.mem_append_right _ (List.mem_of_getElem? (i := 1392) (by decide +kernel)), by decide +kernel⟩, in_J2, co_J2_getChars_ba4f3, ⟨by decide +kernel, by decide +kernel⟩, by decide +kernel, by decide⟩
theorem lk_X12_46 : xLk RX12 46 yJ4_toString_0e30d cJ4_toString_0e30d 1 (some (.object "java/lang/String")) 0 := ⟨List.mem_filter.mpr ⟨List.mem_append_right _ (List.mem_of_getElem? (i := 1397) (by decide +kernel)), by decide +kernel⟩, in_J4, co_J4_toString_0e30d, ⟨by decide +kernel, by decide +kernel⟩, by decide +kernel, by decide⟩
theorem lk_J4_137 : xLk RJ4 137 yJ0_init_81219 cJ0_init_81219 2 none 1 := ⟨List.mem_filter.mpr ⟨List.mem_append_right _ (List.mem_of_getElem? (i := 1403) (by decide +kernel)), by decide +kernel⟩, in_J0, co_J0_init_81219, ⟨by decide +kernel, by decide +kernel⟩, by decide +kernel, by decide⟩
theorem lk_J0_489 : xLk RJ0 489 yJ0_init_db425 cJ0_init_db425 5 none 2 := ⟨List.mem_filter.mpr ⟨List.mem_append_right _ (List.mem_of_getElem? (i := 1406) (by decide +kernel)), by decide +kernel⟩, in_J0, co_J0_init_db425, ⟨by decide +kernel, by decide +kernel⟩, by decide +kernel, by decide⟩
theorem lj_J0_1 : Cond.methodLink RJ0 1 objectInit ∈ xT := List.mem_filter.mpr ⟨List.mem_append_right _ (List.mem_of_getElem? (i := 1409) (by decide +kernel)), by decide +kernel⟩
theorem lk_J0_552 : xLk RJ0 552 yJ5_getValue_6d5f1 cJ5_getValue_6d5f1 1 (some (.array byte)) 0 := ⟨List.mem_filter.mpr ⟨List.mem_append_right _ (List.mem_of_getElem? (i := 1410) (by decide +kernel)), by decide +kernel⟩, in_J5, co_J5_getValue_6d5f1, ⟨by decide +kernel, by decide +kernel⟩, by decide +kernel, by decide⟩
theorem lk_J0_549 : xLk RJ0 549 yJ5_length_8abf5 cJ5_length_8abf5 1 (some .int) 0 := ⟨List.mem_filter.mpr ⟨List.mem_append_right _ (List.mem_of_getElem? (i := 1415) (by decide +kernel)), by decide +kernel⟩, in_J5, co_J5_length_8abf5, ⟨by decide +kernel, by decide +kernel⟩, by decide +kernel, by decide⟩
theorem lk_J4_343 : xLk RJ4 343 yJ5_length_8abf5 cJ5_length_8abf5 1 (some .int) 0 := ⟨List.mem_filter.mpr ⟨List.mem_append_right _ (List.mem_of_getElem? (i := 1421) (by decide +kernel)), by decide +kernel⟩, in_J5, co_J5_length_8abf5, ⟨by decide +kernel, by decide +kernel⟩, by decide +kernel, by decide⟩
theorem lk_J0_1047 : xLk RJ0 1047 yJ5_isLatin1_aae02 cJ5_isLatin1_aae02 1 (some .boolean) 0 := ⟨List.mem_filter.mpr ⟨List.mem_append_right _ (List.mem_of_getElem? (i := 1423) (by decide +kernel)), by decide +kernel⟩, in_J5, co_J5_isLatin1_aae02, ⟨by decide +kernel, by decide +kernel⟩, by decide +kernel, by decide⟩
theorem lk_J0_54 : xLk RJ0 54 yJ7_copyOfRange_39247 cJ7_copyOfRange_39247 3 (some (.array byte)) 3 := ⟨List.mem_filter.mpr ⟨List.mem_append_right _ (List.mem_of_getElem? (i := 1424) (by decide +kernel)), by decide +kernel⟩, in_J7, co_J7_copyOfRange_39247, ⟨by decide +kernel, by decide +kernel⟩, by decide +kernel, by decide⟩
theorem lk_J7_339 : xLk RJ7 339 yJ7_copyOfRangeByte_39247 cJ7_copyOfRangeByte_39247 5 (some (.array byte)) 3 := ⟨List.mem_filter.mpr ⟨List.mem_append_right _ (List.mem_of_getElem? (i := 1427) (by decide +kernel)), by decide +kernel⟩, in_J7, co_J7_copyOfRangeByte_39247, ⟨by decide +kernel, by decide +kernel⟩, by decide +kernel, by decide⟩
theorem lk_J7_343 : xLk RJ7 343 yJ7_checkLength_df160 cJ7_checkLength_df160 2 none 2 := ⟨List.mem_filter.mpr ⟨List.mem_append_right _ (List.mem_of_getElem? (i := 1430) (by decide +kernel)), by decide +kernel⟩, in_J7, co_J7_checkLength_df160, ⟨by decide +kernel, by decide +kernel⟩, by decide +kernel, by decide⟩
theorem lk_J7_47 : xLk RJ7 47 yJ4_init_da8c8 cJ4_init_da8c8 1 none 0 := ⟨List.mem_filter.mpr ⟨List.mem_append_right _ (List.mem_of_getElem? (i := 1435) (by decide +kernel)), by decide +kernel⟩, in_J4, co_J4_init_da8c8, ⟨by decide +kernel, by decide +kernel⟩, by decide +kernel, by decide⟩
theorem lk_J7_54 : xLk RJ7 54 yJ4_append_bf812 cJ4_append_bf812 2 (some (.object "java/lang/StringBuilder")) 1 := ⟨List.mem_filter.mpr ⟨List.mem_append_right _ (List.mem_of_getElem? (i := 1436) (by decide +kernel)), by decide +kernel⟩, in_J4, co_J4_append_bf812, ⟨by decide +kernel, by decide +kernel⟩, by decide +kernel, by decide⟩
theorem lk_J7_50 : xLk RJ7 50 yJ4_append_15ec4 cJ4_append_15ec4 2 (some (.object "java/lang/StringBuilder")) 1 := ⟨List.mem_filter.mpr ⟨List.mem_append_right _ (List.mem_of_getElem? (i := 1438) (by decide +kernel)), by decide +kernel⟩, in_J4, co_J4_append_15ec4, ⟨by decide +kernel, by decide +kernel⟩, by decide +kernel, by decide⟩
theorem lk_J7_61 : xLk RJ7 61 yJ4_toString_0e30d cJ4_toString_0e30d 1 (some (.object "java/lang/String")) 0 := ⟨List.mem_filter.mpr ⟨List.mem_append_right _ (List.mem_of_getElem? (i := 1439) (by decide +kernel)), by decide +kernel⟩, in_J4, co_J4_toString_0e30d, ⟨by decide +kernel, by decide +kernel⟩, by decide +kernel, by decide⟩
theorem lk_J0_1051 : xLk RJ0 1051 yJ2_compress_39247 cJ2_compress_39247 6 (some (.array byte)) 3 := ⟨List.mem_filter.mpr ⟨List.mem_append_right _ (List.mem_of_getElem? (i := 1441) (by decide +kernel)), by decide +kernel⟩, in_J2, co_J2_compress_39247, ⟨by decide +kernel, by decide +kernel⟩, by decide +kernel, by decide⟩
theorem lk_J2_123 : xLk RJ2 123 yJ2_compress_5af95 cJ2_compress_5af95 7 (some .int) 5 := ⟨List.mem_filter.mpr ⟨List.mem_append_right _ (List.mem_of_getElem? (i := 1444) (by decide +kernel)), by decide +kernel⟩, in_J2, co_J2_compress_5af95, ⟨by decide +kernel, by decide +kernel⟩, by decide +kernel, by decide⟩
theorem lk_J2_126 : xLk RJ2 126 yJ7_copyOfRange_39247 cJ7_copyOfRange_39247 3 (some (.array byte)) 3 := ⟨List.mem_filter.mpr ⟨List.mem_append_right _ (List.mem_of_getElem? (i := 1447) (by decide +kernel)), by decide +kernel⟩, in_J7, co_J7_copyOfRange_39247, ⟨by decide +kernel, by decide +kernel⟩, by decide +kernel, by decide⟩
theorem lk_J0_47 : xLk RJ0 47 yJ2_coderFromArrayLen_85cad cJ2_coderFromArrayLen_85cad 2 (some .byte) 2 := ⟨List.mem_filter.mpr ⟨List.mem_append_right _ (List.mem_of_getElem? (i := 1448) (by decide +kernel)), by decide +kernel⟩, in_J2, co_J2_coderFromArrayLen_85cad, ⟨by decide +kernel, by decide +kernel⟩, by decide +kernel, by decide⟩
theorem fd_J0_9 : xFd RJ0 9 21 0 RJ0 TJ0 4 := ⟨rfl, by decide, by decide, List.mem_filter.mpr ⟨List.mem_append_right _ (List.mem_of_getElem? (i := 1451) (by decide +kernel)), by decide +kernel⟩, rfl, rfl, uw_J0⟩
theorem fd_J0_15 : xFd RJ0 15 21 1 RJ0 TJ0 4 := ⟨rfl, by decide, by decide, List.mem_filter.mpr ⟨List.mem_append_right _ (List.mem_of_getElem? (i := 1452) (by decide +kernel)), by decide +kernel⟩, rfl, rfl, uw_J0⟩
theorem lk_X12_56 : xLk RX12 56 yX12_text cX12_text 4 (some (.object "java/lang/String")) 1 := ⟨List.mem_filter.mpr ⟨List.mem_append_right _ (List.mem_of_getElem? (i := 1464) (by decide +kernel)), by decide +kernel⟩, in_X12, co_X12_text, ⟨by decide +kernel, by decide +kernel⟩, by decide +kernel, by decide⟩
theorem lk_L_197 : xLk RL 197 yL_loadText cL_loadText 3 (some .int) 2 := ⟨List.mem_filter.mpr ⟨List.mem_append_right _ (List.mem_of_getElem? (i := 1472) (by decide +kernel)), by decide +kernel⟩, in_L, co_L_loadText, ⟨by decide +kernel, by decide +kernel⟩, by decide +kernel, by decide⟩
theorem lk_L_231 : xLk RL 231 yL_agrees cL_agrees 5 (some .boolean) 2 := ⟨List.mem_filter.mpr ⟨List.mem_append_right _ (List.mem_of_getElem? (i := 1475) (by decide +kernel)), by decide +kernel⟩, in_L, co_L_agrees, ⟨by decide +kernel, by decide +kernel⟩, by decide +kernel, by decide⟩
theorem lk_L_201 : xLk RL 201 yX11_checksum cX11_checksum 5 (some .long) 0 := ⟨List.mem_filter.mpr ⟨List.mem_append_right _ (List.mem_of_getElem? (i := 1478) (by decide +kernel)), by decide +kernel⟩, in_X11, co_X11_checksum, ⟨by decide +kernel, by decide +kernel⟩, by decide +kernel, by decide⟩
theorem lk_X11_262 : xLk RX11 262 yX11_state cX11_state 2 (some .int) 1 := ⟨List.mem_filter.mpr ⟨List.mem_append_right _ (List.mem_of_getElem? (i := 1483) (by decide +kernel)), by decide +kernel⟩, in_X11, co_X11_state, ⟨by decide +kernel, by decide +kernel⟩, by decide +kernel, by decide⟩
theorem lk_X11_264 : xLk RX11 264 yX11_flow cX11_flow 3 (some .int) 2 := ⟨List.mem_filter.mpr ⟨List.mem_append_right _ (List.mem_of_getElem? (i := 1488) (by decide +kernel)), by decide +kernel⟩, in_X11, co_X11_flow, ⟨by decide +kernel, by decide +kernel⟩, by decide +kernel, by decide⟩
theorem lk_X11_147 : xLk RX11 147 yX0_countOf cX0_countOf 4 (some .int) 1 := ⟨List.mem_filter.mpr ⟨List.mem_append_right _ (List.mem_of_getElem? (i := 1492) (by decide +kernel)), by decide +kernel⟩, in_X0, co_X0_countOf, ⟨by decide +kernel, by decide +kernel⟩, by decide +kernel, by decide⟩
theorem lk_X11_150 : xLk RX11 150 yX0_sumOf cX0_sumOf 4 (some .int) 1 := ⟨List.mem_filter.mpr ⟨List.mem_append_right _ (List.mem_of_getElem? (i := 1496) (by decide +kernel)), by decide +kernel⟩, in_X0, co_X0_sumOf, ⟨by decide +kernel, by decide +kernel⟩, by decide +kernel, by decide⟩
theorem lk_X11_153 : xLk RX11 153 yX5_deliveredSizeOf cX5_deliveredSizeOf 4 (some .int) 1 := ⟨List.mem_filter.mpr ⟨List.mem_append_right _ (List.mem_of_getElem? (i := 1497) (by decide +kernel)), by decide +kernel⟩, in_X5, co_X5_deliveredSizeOf, ⟨by decide +kernel, by decide +kernel⟩, by decide +kernel, by decide⟩
theorem lk_X11_266 : xLk RX11 266 yX11_packet cX11_packet 3 (some .int) 2 := ⟨List.mem_filter.mpr ⟨List.mem_append_right _ (List.mem_of_getElem? (i := 1501) (by decide +kernel)), by decide +kernel⟩, in_X11, co_X11_packet, ⟨by decide +kernel, by decide +kernel⟩, by decide +kernel, by decide⟩
theorem lk_X11_192 : xLk RX11 192 yX10_gateOf cX10_gateOf 4 (some .int) 1 := ⟨List.mem_filter.mpr ⟨List.mem_append_right _ (List.mem_of_getElem? (i := 1505) (by decide +kernel)), by decide +kernel⟩, in_X10, co_X10_gateOf, ⟨by decide +kernel, by decide +kernel⟩, by decide +kernel, by decide⟩
theorem lk_X11_269 : xLk RX11 269 yX11_coupon cX11_coupon 3 (some .int) 2 := ⟨List.mem_filter.mpr ⟨List.mem_append_right _ (List.mem_of_getElem? (i := 1509) (by decide +kernel)), by decide +kernel⟩, in_X11, co_X11_coupon, ⟨by decide +kernel, by decide +kernel⟩, by decide +kernel, by decide⟩
theorem lk_X11_272 : xLk RX11 272 yX11_tokens cX11_tokens 3 (some .int) 2 := ⟨List.mem_filter.mpr ⟨List.mem_append_right _ (List.mem_of_getElem? (i := 1513) (by decide +kernel)), by decide +kernel⟩, in_X11, co_X11_tokens, ⟨by decide +kernel, by decide +kernel⟩, by decide +kernel, by decide⟩
theorem lk_X11_274 : xLk RX11 274 yX11_queue cX11_queue 3 (some .int) 2 := ⟨List.mem_filter.mpr ⟨List.mem_append_right _ (List.mem_of_getElem? (i := 1517) (by decide +kernel)), by decide +kernel⟩, in_X11, co_X11_queue, ⟨by decide +kernel, by decide +kernel⟩, by decide +kernel, by decide⟩
theorem lk_L_205 : xLk RL 205 yX14_checksum cX14_checksum 11 (some .long) 0 := ⟨List.mem_filter.mpr ⟨List.mem_append_right _ (List.mem_of_getElem? (i := 1521) (by decide +kernel)), by decide +kernel⟩, in_X14, co_X14_checksum, ⟨by decide +kernel, by decide +kernel⟩, by decide +kernel, by decide⟩
theorem lk_X14_129 : xLk RX14 129 yX14_told cX14_told 2 (some .int) 1 := ⟨List.mem_filter.mpr ⟨List.mem_append_right _ (List.mem_of_getElem? (i := 1526) (by decide +kernel)), by decide +kernel⟩, in_X14, co_X14_told, ⟨by decide +kernel, by decide +kernel⟩, by decide +kernel, by decide⟩
theorem lk_X14_124 : xLk RX14 124 yX14_count cX14_count 7 (some .int) 1 := ⟨List.mem_filter.mpr ⟨List.mem_append_right _ (List.mem_of_getElem? (i := 1530) (by decide +kernel)), by decide +kernel⟩, in_X14, co_X14_count, ⟨by decide +kernel, by decide +kernel⟩, by decide +kernel, by decide⟩
theorem lk_X14_132 : xLk RX14 132 yX14_flow cX14_flow 8 (some .int) 2 := ⟨List.mem_filter.mpr ⟨List.mem_append_right _ (List.mem_of_getElem? (i := 1531) (by decide +kernel)), by decide +kernel⟩, in_X14, co_X14_flow, ⟨by decide +kernel, by decide +kernel⟩, by decide +kernel, by decide⟩
theorem lk_X14_135 : xLk RX14 135 yX14_packet cX14_packet 4 (some .int) 2 := ⟨List.mem_filter.mpr ⟨List.mem_append_right _ (List.mem_of_getElem? (i := 1535) (by decide +kernel)), by decide +kernel⟩, in_X14, co_X14_packet, ⟨by decide +kernel, by decide +kernel⟩, by decide +kernel, by decide⟩
theorem lk_L_43 : xLk RL 43 yX11_state cX11_state 2 (some .int) 1 := ⟨List.mem_filter.mpr ⟨List.mem_append_right _ (List.mem_of_getElem? (i := 1542) (by decide +kernel)), by decide +kernel⟩, in_X11, co_X11_state, ⟨by decide +kernel, by decide +kernel⟩, by decide +kernel, by decide⟩
theorem lk_L_208 : xLk RL 208 yX14_told cX14_told 2 (some .int) 1 := ⟨List.mem_filter.mpr ⟨List.mem_append_right _ (List.mem_of_getElem? (i := 1543) (by decide +kernel)), by decide +kernel⟩, in_X14, co_X14_told, ⟨by decide +kernel, by decide +kernel⟩, by decide +kernel, by decide⟩
theorem lk_L_53 : xLk RL 53 yX11_flow cX11_flow 3 (some .int) 2 := ⟨List.mem_filter.mpr ⟨List.mem_append_right _ (List.mem_of_getElem? (i := 1547) (by decide +kernel)), by decide +kernel⟩, in_X11, co_X11_flow, ⟨by decide +kernel, by decide +kernel⟩, by decide +kernel, by decide⟩
theorem lk_L_214 : xLk RL 214 yX14_flow cX14_flow 8 (some .int) 2 := ⟨List.mem_filter.mpr ⟨List.mem_append_right _ (List.mem_of_getElem? (i := 1548) (by decide +kernel)), by decide +kernel⟩, in_X14, co_X14_flow, ⟨by decide +kernel, by decide +kernel⟩, by decide +kernel, by decide⟩
theorem lk_L_68 : xLk RL 68 yX11_packet cX11_packet 3 (some .int) 2 := ⟨List.mem_filter.mpr ⟨List.mem_append_right _ (List.mem_of_getElem? (i := 1552) (by decide +kernel)), by decide +kernel⟩, in_X11, co_X11_packet, ⟨by decide +kernel, by decide +kernel⟩, by decide +kernel, by decide⟩
theorem lk_L_217 : xLk RL 217 yX14_packet cX14_packet 4 (some .int) 2 := ⟨List.mem_filter.mpr ⟨List.mem_append_right _ (List.mem_of_getElem? (i := 1553) (by decide +kernel)), by decide +kernel⟩, in_X14, co_X14_packet, ⟨by decide +kernel, by decide +kernel⟩, by decide +kernel, by decide⟩
theorem lk_L_71 : xLk RL 71 yX11_coupon cX11_coupon 3 (some .int) 2 := ⟨List.mem_filter.mpr ⟨List.mem_append_right _ (List.mem_of_getElem? (i := 1557) (by decide +kernel)), by decide +kernel⟩, in_X11, co_X11_coupon, ⟨by decide +kernel, by decide +kernel⟩, by decide +kernel, by decide⟩
theorem lk_L_62 : xLk RL 62 yX11_tokens cX11_tokens 3 (some .int) 2 := ⟨List.mem_filter.mpr ⟨List.mem_append_right _ (List.mem_of_getElem? (i := 1561) (by decide +kernel)), by decide +kernel⟩, in_X11, co_X11_tokens, ⟨by decide +kernel, by decide +kernel⟩, by decide +kernel, by decide⟩
theorem lk_L_65 : xLk RL 65 yX11_queue cX11_queue 3 (some .int) 2 := ⟨List.mem_filter.mpr ⟨List.mem_append_right _ (List.mem_of_getElem? (i := 1565) (by decide +kernel)), by decide +kernel⟩, in_X11, co_X11_queue, ⟨by decide +kernel, by decide +kernel⟩, by decide +kernel, by decide⟩
theorem lk_L_224 : xLk RL 224 yX14_queue cX14_queue 8 (some .int) 2 := ⟨List.mem_filter.mpr ⟨List.mem_append_right _ (List.mem_of_getElem? (i := 1566) (by decide +kernel)), by decide +kernel⟩, in_X14, co_X14_queue, ⟨by decide +kernel, by decide +kernel⟩, by decide +kernel, by decide⟩
theorem lk_L_46 : xLk RL 46 yX11_gate cX11_gate 3 (some .int) 2 := ⟨List.mem_filter.mpr ⟨List.mem_append_right _ (List.mem_of_getElem? (i := 1570) (by decide +kernel)), by decide +kernel⟩, in_X11, co_X11_gate, ⟨by decide +kernel, by decide +kernel⟩, by decide +kernel, by decide⟩
theorem jw_obj_im : Cond.instanceMethod objectInit ∈ xT := List.mem_filter.mpr ⟨List.mem_append_right _ (List.mem_of_getElem? (i := 41) (by decide +kernel)), by decide +kernel⟩
theorem jw_obj_co : Cond.code objectInit ⟨#[0xb1]⟩ 1 none ∈ xT := List.mem_filter.mpr ⟨List.mem_append_right _ (List.mem_of_getElem? (i := 42) (by decide +kernel)), by decide +kernel⟩
theorem jw_cp_nat : Cond.native arraycopyName ∈ xT := List.mem_filter.mpr ⟨List.mem_append_right _ (List.mem_of_getElem? (i := 460) (by decide +kernel)), by decide +kernel⟩
theorem jw_cp_st : Cond.static arraycopyName ∈ xT := List.mem_filter.mpr ⟨List.mem_append_right _ (List.mem_of_getElem? (i := 459) (by decide +kernel)), by decide +kernel⟩
theorem jw_cp_in : Cond.initialized "java/lang/System" ∈ xT := List.mem_filter.mpr ⟨List.mem_append_right _ (List.mem_of_getElem? (i := 20) (by decide +kernel)), by decide +kernel⟩
theorem jw_ma_in : Cond.initialized "java/lang/Math" ∈ xT := List.mem_filter.mpr ⟨List.mem_append_right _ (List.mem_of_getElem? (i := 21) (by decide +kernel)), by decide +kernel⟩
theorem jw_max_st : Cond.static Lib.Math.max.name ∈ xT := List.mem_filter.mpr ⟨List.mem_append_right _ (List.mem_of_getElem? (i := 618) (by decide +kernel)), by decide +kernel⟩
theorem jw_max_co : Cond.code Lib.Math.max.name Lib.Math.max.code 2 (some .int) ∈ xT := List.mem_filter.mpr ⟨List.mem_append_right _ (List.mem_of_getElem? (i := 619) (by decide +kernel)), by decide +kernel⟩
theorem jw_min_st : Cond.static Lib.Math.min.name ∈ xT := List.mem_filter.mpr ⟨List.mem_append_right _ (List.mem_of_getElem? (i := 585) (by decide +kernel)), by decide +kernel⟩
theorem jw_min_co : Cond.code Lib.Math.min.name Lib.Math.min.code 2 (some .int) ∈ xT := List.mem_filter.mpr ⟨List.mem_append_right _ (List.mem_of_getElem? (i := 586) (by decide +kernel)), by decide +kernel⟩
theorem jw_maxL_st : Cond.static Lib.MathLoose.max_long.x ∈ xT := List.mem_filter.mpr ⟨List.mem_append_right _ (List.mem_of_getElem? (i := 631) (by decide +kernel)), by decide +kernel⟩
theorem jw_maxL_co : Cond.code Lib.MathLoose.max_long.x Lib.MathLoose.max_long.code 4 (some .long) ∈ xT := List.mem_filter.mpr ⟨List.mem_append_right _ (List.mem_of_getElem? (i := 632) (by decide +kernel)), by decide +kernel⟩
theorem jw_minL_st : Cond.static Lib.MathLoose.min_long.x ∈ xT := List.mem_filter.mpr ⟨List.mem_append_right _ (List.mem_of_getElem? (i := 628) (by decide +kernel)), by decide +kernel⟩
theorem jw_minL_co : Cond.code Lib.MathLoose.min_long.x Lib.MathLoose.min_long.code 4 (some .long) ∈ xT := List.mem_filter.mpr ⟨List.mem_append_right _ (List.mem_of_getElem? (i := 629) (by decide +kernel)), by decide +kernel⟩
