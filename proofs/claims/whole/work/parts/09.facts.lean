/-! ===== FACTS OF THE TABLES (by mkfacts.py): places in lw_tbl ===== -/
theorem hu_X0 : ∀ w ∈ u_ws RX0 TX0 3, w ∈ zB := fun w h => List.mem_filter.mpr ⟨(by
  have h1 : (u_ws RX0 TX0 3).all (fun w => decide (w ∈ lw_tbl)) = true := by decide +kernel
  exact of_decide_eq_true (List.all_eq_true.mp h1 w h)), (by
  have h1 : (u_ws RX0 TX0 3).all goodWord = true := by decide +kernel
  exact List.all_eq_true.mp h1 w h)⟩
theorem t_X0_0 : zTY 0 0 (.array .int) true := ⟨RX0, TX0, 3, tyX0, rfl, tyX0_ok, nmX0, rfl, rfl, by decide +kernel⟩
theorem t_X0_1 : zTY 0 1 (.array .int) true := ⟨RX0, TX0, 3, tyX0, rfl, tyX0_ok, nmX0, rfl, rfl, by decide +kernel⟩
theorem t_X0_2 : zTY 0 2 .int false := ⟨RX0, TX0, 3, tyX0, rfl, tyX0_ok, nmX0, rfl, rfl, by decide +kernel⟩
theorem hu_X1 : ∀ w ∈ u_ws RX1 TX1 5, w ∈ zB := fun w h => List.mem_filter.mpr ⟨(by
  have h1 : (u_ws RX1 TX1 5).all (fun w => decide (w ∈ lw_tbl)) = true := by decide +kernel
  exact of_decide_eq_true (List.all_eq_true.mp h1 w h)), (by
  have h1 : (u_ws RX1 TX1 5).all goodWord = true := by decide +kernel
  exact List.all_eq_true.mp h1 w h)⟩
theorem t_X1_0 : zTY 1 0 .long false := ⟨RX1, TX1, 5, tyX1, rfl, tyX1_ok, nmX1, rfl, rfl, by decide +kernel⟩
theorem t_X1_1 : zTY 1 1 .long false := ⟨RX1, TX1, 5, tyX1, rfl, tyX1_ok, nmX1, rfl, rfl, by decide +kernel⟩
theorem t_X1_2 : zTY 1 2 .boolean false := ⟨RX1, TX1, 5, tyX1, rfl, tyX1_ok, nmX1, rfl, rfl, by decide +kernel⟩
theorem t_X1_3 : zTY 1 3 .long false := ⟨RX1, TX1, 5, tyX1, rfl, tyX1_ok, nmX1, rfl, rfl, by decide +kernel⟩
theorem t_X1_4 : zTY 1 4 .long false := ⟨RX1, TX1, 5, tyX1, rfl, tyX1_ok, nmX1, rfl, rfl, by decide +kernel⟩
theorem hu_X2 : ∀ w ∈ u_ws RX2 TX2 10, w ∈ zB := fun w h => List.mem_filter.mpr ⟨(by
  have h1 : (u_ws RX2 TX2 10).all (fun w => decide (w ∈ lw_tbl)) = true := by decide +kernel
  exact of_decide_eq_true (List.all_eq_true.mp h1 w h)), (by
  have h1 : (u_ws RX2 TX2 10).all goodWord = true := by decide +kernel
  exact List.all_eq_true.mp h1 w h)⟩
theorem t_X2_0 : zTY 2 0 (.array .int) true := ⟨RX2, TX2, 10, tyX2, rfl, tyX2_ok, nmX2, rfl, rfl, by decide +kernel⟩
theorem t_X2_1 : zTY 2 1 (.array .long) true := ⟨RX2, TX2, 10, tyX2, rfl, tyX2_ok, nmX2, rfl, rfl, by decide +kernel⟩
theorem t_X2_2 : zTY 2 2 (.array .long) true := ⟨RX2, TX2, 10, tyX2, rfl, tyX2_ok, nmX2, rfl, rfl, by decide +kernel⟩
theorem t_X2_3 : zTY 2 3 (.object "SurdFractions$Steps") true := ⟨RX2, TX2, 10, tyX2, rfl, tyX2_ok, nmX2, rfl, rfl, by decide +kernel⟩
theorem t_X2_4 : zTY 2 4 (.object "SurdFractions$Chain") true := ⟨RX2, TX2, 10, tyX2, rfl, tyX2_ok, nmX2, rfl, rfl, by decide +kernel⟩
theorem t_X2_5 : zTY 2 5 .long false := ⟨RX2, TX2, 10, tyX2, rfl, tyX2_ok, nmX2, rfl, rfl, by decide +kernel⟩
theorem t_X2_6 : zTY 2 6 .long false := ⟨RX2, TX2, 10, tyX2, rfl, tyX2_ok, nmX2, rfl, rfl, by decide +kernel⟩
theorem t_X2_7 : zTY 2 7 .int false := ⟨RX2, TX2, 10, tyX2, rfl, tyX2_ok, nmX2, rfl, rfl, by decide +kernel⟩
theorem t_X2_8 : zTY 2 8 .int false := ⟨RX2, TX2, 10, tyX2, rfl, tyX2_ok, nmX2, rfl, rfl, by decide +kernel⟩
theorem t_X2_9 : zTY 2 9 .int false := ⟨RX2, TX2, 10, tyX2, rfl, tyX2_ok, nmX2, rfl, rfl, by decide +kernel⟩
theorem hu_X3 : ∀ w ∈ u_ws RX3 TX3 2, w ∈ zB := fun w h => List.mem_filter.mpr ⟨(by
  have h1 : (u_ws RX3 TX3 2).all (fun w => decide (w ∈ lw_tbl)) = true := by decide +kernel
  exact of_decide_eq_true (List.all_eq_true.mp h1 w h)), (by
  have h1 : (u_ws RX3 TX3 2).all goodWord = true := by decide +kernel
  exact List.all_eq_true.mp h1 w h)⟩
theorem t_X3_0 : zTY 3 0 (.array (.object "SurdFractions$State")) true := ⟨RX3, TX3, 2, tyX3, rfl, tyX3_ok, nmX3, rfl, rfl, by decide +kernel⟩
theorem t_X3_1 : zTY 3 1 .int false := ⟨RX3, TX3, 2, tyX3, rfl, tyX3_ok, nmX3, rfl, rfl, by decide +kernel⟩
theorem hu_X4 : ∀ w ∈ u_ws RX4 TX4 5, w ∈ zB := fun w h => List.mem_filter.mpr ⟨(by
  have h1 : (u_ws RX4 TX4 5).all (fun w => decide (w ∈ lw_tbl)) = true := by decide +kernel
  exact of_decide_eq_true (List.all_eq_true.mp h1 w h)), (by
  have h1 : (u_ws RX4 TX4 5).all goodWord = true := by decide +kernel
  exact List.all_eq_true.mp h1 w h)⟩
theorem t_X4_0 : zTY 4 0 .long false := ⟨RX4, TX4, 5, tyX4, rfl, tyX4_ok, nmX4, rfl, rfl, by decide +kernel⟩
theorem t_X4_1 : zTY 4 1 .long false := ⟨RX4, TX4, 5, tyX4, rfl, tyX4_ok, nmX4, rfl, rfl, by decide +kernel⟩
theorem t_X4_2 : zTY 4 2 .long false := ⟨RX4, TX4, 5, tyX4, rfl, tyX4_ok, nmX4, rfl, rfl, by decide +kernel⟩
theorem t_X4_3 : zTY 4 3 .long false := ⟨RX4, TX4, 5, tyX4, rfl, tyX4_ok, nmX4, rfl, rfl, by decide +kernel⟩
theorem t_X4_4 : zTY 4 4 .int false := ⟨RX4, TX4, 5, tyX4, rfl, tyX4_ok, nmX4, rfl, rfl, by decide +kernel⟩
theorem hu_X5 : ∀ w ∈ u_ws RX5 TX5 5, w ∈ zB := fun w h => List.mem_filter.mpr ⟨(by
  have h1 : (u_ws RX5 TX5 5).all (fun w => decide (w ∈ lw_tbl)) = true := by decide +kernel
  exact of_decide_eq_true (List.all_eq_true.mp h1 w h)), (by
  have h1 : (u_ws RX5 TX5 5).all goodWord = true := by decide +kernel
  exact List.all_eq_true.mp h1 w h)⟩
theorem t_X5_0 : zTY 5 0 (.object "SurdFractions$Steps") true := ⟨RX5, TX5, 5, tyX5, rfl, tyX5_ok, nmX5, rfl, rfl, by decide +kernel⟩
theorem t_X5_1 : zTY 5 1 (.object "SurdFractions$Chain") true := ⟨RX5, TX5, 5, tyX5, rfl, tyX5_ok, nmX5, rfl, rfl, by decide +kernel⟩
theorem t_X5_2 : zTY 5 2 .int false := ⟨RX5, TX5, 5, tyX5, rfl, tyX5_ok, nmX5, rfl, rfl, by decide +kernel⟩
theorem t_X5_3 : zTY 5 3 .long false := ⟨RX5, TX5, 5, tyX5, rfl, tyX5_ok, nmX5, rfl, rfl, by decide +kernel⟩
theorem t_X5_4 : zTY 5 4 .long false := ⟨RX5, TX5, 5, tyX5, rfl, tyX5_ok, nmX5, rfl, rfl, by decide +kernel⟩
theorem hu_X6 : ∀ w ∈ u_ws RX6 TX6 2, w ∈ zB := fun w h => List.mem_filter.mpr ⟨(by
  have h1 : (u_ws RX6 TX6 2).all (fun w => decide (w ∈ lw_tbl)) = true := by decide +kernel
  exact of_decide_eq_true (List.all_eq_true.mp h1 w h)), (by
  have h1 : (u_ws RX6 TX6 2).all goodWord = true := by decide +kernel
  exact List.all_eq_true.mp h1 w h)⟩
theorem t_X6_0 : zTY 6 0 (.object "SurdFractions$Surd") true := ⟨RX6, TX6, 2, tyX6, rfl, tyX6_ok, nmX6, rfl, rfl, by decide +kernel⟩
theorem t_X6_1 : zTY 6 1 (.object "SurdFractions$Book") true := ⟨RX6, TX6, 2, tyX6, rfl, tyX6_ok, nmX6, rfl, rfl, by decide +kernel⟩
theorem hu_X7 : ∀ w ∈ u_ws RX7 TX7 4, w ∈ zB := fun w h => List.mem_filter.mpr ⟨(by
  have h1 : (u_ws RX7 TX7 4).all (fun w => decide (w ∈ lw_tbl)) = true := by decide +kernel
  exact of_decide_eq_true (List.all_eq_true.mp h1 w h)), (by
  have h1 : (u_ws RX7 TX7 4).all goodWord = true := by decide +kernel
  exact List.all_eq_true.mp h1 w h)⟩
theorem t_X7_0 : zTY 7 0 .long false := ⟨RX7, TX7, 4, tyX7, rfl, tyX7_ok, nmX7, rfl, rfl, by decide +kernel⟩
theorem t_X7_1 : zTY 7 1 .long false := ⟨RX7, TX7, 4, tyX7, rfl, tyX7_ok, nmX7, rfl, rfl, by decide +kernel⟩
theorem t_X7_2 : zTY 7 2 .long false := ⟨RX7, TX7, 4, tyX7, rfl, tyX7_ok, nmX7, rfl, rfl, by decide +kernel⟩
theorem t_X7_3 : zTY 7 3 .long false := ⟨RX7, TX7, 4, tyX7, rfl, tyX7_ok, nmX7, rfl, rfl, by decide +kernel⟩
theorem hu_X8 : ∀ w ∈ u_ws RX8 TX8 3, w ∈ zB := fun w h => List.mem_filter.mpr ⟨(by
  have h1 : (u_ws RX8 TX8 3).all (fun w => decide (w ∈ lw_tbl)) = true := by decide +kernel
  exact of_decide_eq_true (List.all_eq_true.mp h1 w h)), (by
  have h1 : (u_ws RX8 TX8 3).all goodWord = true := by decide +kernel
  exact List.all_eq_true.mp h1 w h)⟩
theorem t_X8_0 : zTY 8 0 .int false := ⟨RX8, TX8, 3, tyX8, rfl, tyX8_ok, nmX8, rfl, rfl, by decide +kernel⟩
theorem t_X8_1 : zTY 8 1 .int false := ⟨RX8, TX8, 3, tyX8, rfl, tyX8_ok, nmX8, rfl, rfl, by decide +kernel⟩
theorem t_X8_2 : zTY 8 2 .int false := ⟨RX8, TX8, 3, tyX8, rfl, tyX8_ok, nmX8, rfl, rfl, by decide +kernel⟩
theorem hu_X9 : ∀ w ∈ u_ws RX9 TX9 6, w ∈ zB := fun w h => List.mem_filter.mpr ⟨(by
  have h1 : (u_ws RX9 TX9 6).all (fun w => decide (w ∈ lw_tbl)) = true := by decide +kernel
  exact of_decide_eq_true (List.all_eq_true.mp h1 w h)), (by
  have h1 : (u_ws RX9 TX9 6).all goodWord = true := by decide +kernel
  exact List.all_eq_true.mp h1 w h)⟩
theorem t_X9_0 : zTY 9 0 (.array .char) true := ⟨RX9, TX9, 6, tyX9, rfl, tyX9_ok, nmX9, rfl, rfl, by decide +kernel⟩
theorem t_X9_1 : zTY 9 1 (.array .int) true := ⟨RX9, TX9, 6, tyX9, rfl, tyX9_ok, nmX9, rfl, rfl, by decide +kernel⟩
theorem t_X9_2 : zTY 9 2 .int false := ⟨RX9, TX9, 6, tyX9, rfl, tyX9_ok, nmX9, rfl, rfl, by decide +kernel⟩
theorem t_X9_3 : zTY 9 3 .int false := ⟨RX9, TX9, 6, tyX9, rfl, tyX9_ok, nmX9, rfl, rfl, by decide +kernel⟩
theorem t_X9_4 : zTY 9 4 .int false := ⟨RX9, TX9, 6, tyX9, rfl, tyX9_ok, nmX9, rfl, rfl, by decide +kernel⟩
theorem t_X9_5 : zTY 9 5 .int false := ⟨RX9, TX9, 6, tyX9, rfl, tyX9_ok, nmX9, rfl, rfl, by decide +kernel⟩
theorem hu_X10 : ∀ w ∈ u_ws RX10 TX10 7, w ∈ zB := fun w h => List.mem_filter.mpr ⟨(by
  have h1 : (u_ws RX10 TX10 7).all (fun w => decide (w ∈ lw_tbl)) = true := by decide +kernel
  exact of_decide_eq_true (List.all_eq_true.mp h1 w h)), (by
  have h1 : (u_ws RX10 TX10 7).all goodWord = true := by decide +kernel
  exact List.all_eq_true.mp h1 w h)⟩
theorem t_X10_0 : zTY 10 0 (.object "SurdFractions$State") true := ⟨RX10, TX10, 7, tyX10, rfl, tyX10_ok, nmX10, rfl, rfl, by decide +kernel⟩
theorem t_X10_1 : zTY 10 1 (.object "SurdFractions$History") true := ⟨RX10, TX10, 7, tyX10, rfl, tyX10_ok, nmX10, rfl, rfl, by decide +kernel⟩
theorem t_X10_2 : zTY 10 2 (.object "SurdFractions$Expansion") true := ⟨RX10, TX10, 7, tyX10, rfl, tyX10_ok, nmX10, rfl, rfl, by decide +kernel⟩
theorem t_X10_3 : zTY 10 3 (.object "SurdFractions$Neighbours") true := ⟨RX10, TX10, 7, tyX10, rfl, tyX10_ok, nmX10, rfl, rfl, by decide +kernel⟩
theorem t_X10_4 : zTY 10 4 (.object "SurdFractions$Squares") true := ⟨RX10, TX10, 7, tyX10, rfl, tyX10_ok, nmX10, rfl, rfl, by decide +kernel⟩
theorem t_X10_5 : zTY 10 5 (.object "SurdFractions$Text") true := ⟨RX10, TX10, 7, tyX10, rfl, tyX10_ok, nmX10, rfl, rfl, by decide +kernel⟩
theorem t_X10_6 : zTY 10 6 (.object "SurdFractions$Chain") true := ⟨RX10, TX10, 7, tyX10, rfl, tyX10_ok, nmX10, rfl, rfl, by decide +kernel⟩
theorem hu_X11 : ∀ w ∈ u_ws RX11 TX11 22, w ∈ zB := fun w h => List.mem_filter.mpr ⟨(by
  have h1 : (u_ws RX11 TX11 22).all (fun w => decide (w ∈ lw_tbl)) = true := by decide +kernel
  exact of_decide_eq_true (List.all_eq_true.mp h1 w h)), (by
  have h1 : (u_ws RX11 TX11 22).all goodWord = true := by decide +kernel
  exact List.all_eq_true.mp h1 w h)⟩
theorem t_X11_0 : zTY 11 0 (.array .int) true := ⟨RX11, TX11, 22, tyX11, rfl, tyX11_ok, nmX11, rfl, rfl, by decide +kernel⟩
theorem t_X11_1 : zTY 11 1 (.array .int) true := ⟨RX11, TX11, 22, tyX11, rfl, tyX11_ok, nmX11, rfl, rfl, by decide +kernel⟩
theorem t_X11_2 : zTY 11 2 .int false := ⟨RX11, TX11, 22, tyX11, rfl, tyX11_ok, nmX11, rfl, rfl, by decide +kernel⟩
theorem t_X11_3 : zTY 11 3 (.array .int) true := ⟨RX11, TX11, 22, tyX11, rfl, tyX11_ok, nmX11, rfl, rfl, by decide +kernel⟩
theorem t_X11_4 : zTY 11 4 .int false := ⟨RX11, TX11, 22, tyX11, rfl, tyX11_ok, nmX11, rfl, rfl, by decide +kernel⟩
theorem t_X11_5 : zTY 11 5 (.array .int) true := ⟨RX11, TX11, 22, tyX11, rfl, tyX11_ok, nmX11, rfl, rfl, by decide +kernel⟩
theorem t_X11_6 : zTY 11 6 (.array .long) true := ⟨RX11, TX11, 22, tyX11, rfl, tyX11_ok, nmX11, rfl, rfl, by decide +kernel⟩
theorem t_X11_7 : zTY 11 7 (.array .long) true := ⟨RX11, TX11, 22, tyX11, rfl, tyX11_ok, nmX11, rfl, rfl, by decide +kernel⟩
theorem t_X11_8 : zTY 11 8 .int false := ⟨RX11, TX11, 22, tyX11, rfl, tyX11_ok, nmX11, rfl, rfl, by decide +kernel⟩
theorem t_X11_9 : zTY 11 9 .long false := ⟨RX11, TX11, 22, tyX11, rfl, tyX11_ok, nmX11, rfl, rfl, by decide +kernel⟩
theorem t_X11_10 : zTY 11 10 .long false := ⟨RX11, TX11, 22, tyX11, rfl, tyX11_ok, nmX11, rfl, rfl, by decide +kernel⟩
theorem t_X11_11 : zTY 11 11 .long false := ⟨RX11, TX11, 22, tyX11, rfl, tyX11_ok, nmX11, rfl, rfl, by decide +kernel⟩
theorem t_X11_12 : zTY 11 12 .long false := ⟨RX11, TX11, 22, tyX11, rfl, tyX11_ok, nmX11, rfl, rfl, by decide +kernel⟩
theorem t_X11_13 : zTY 11 13 .long false := ⟨RX11, TX11, 22, tyX11, rfl, tyX11_ok, nmX11, rfl, rfl, by decide +kernel⟩
theorem t_X11_14 : zTY 11 14 .int false := ⟨RX11, TX11, 22, tyX11, rfl, tyX11_ok, nmX11, rfl, rfl, by decide +kernel⟩
theorem t_X11_15 : zTY 11 15 .int false := ⟨RX11, TX11, 22, tyX11, rfl, tyX11_ok, nmX11, rfl, rfl, by decide +kernel⟩
theorem t_X11_16 : zTY 11 16 .int false := ⟨RX11, TX11, 22, tyX11, rfl, tyX11_ok, nmX11, rfl, rfl, by decide +kernel⟩
theorem t_X11_17 : zTY 11 17 .int false := ⟨RX11, TX11, 22, tyX11, rfl, tyX11_ok, nmX11, rfl, rfl, by decide +kernel⟩
theorem t_X11_18 : zTY 11 18 .int false := ⟨RX11, TX11, 22, tyX11, rfl, tyX11_ok, nmX11, rfl, rfl, by decide +kernel⟩
theorem t_X11_19 : zTY 11 19 .int false := ⟨RX11, TX11, 22, tyX11, rfl, tyX11_ok, nmX11, rfl, rfl, by decide +kernel⟩
theorem t_X11_20 : zTY 11 20 .int false := ⟨RX11, TX11, 22, tyX11, rfl, tyX11_ok, nmX11, rfl, rfl, by decide +kernel⟩
theorem t_X11_21 : zTY 11 21 (.array .int) true := ⟨RX11, TX11, 22, tyX11, rfl, tyX11_ok, nmX11, rfl, rfl, by decide +kernel⟩
theorem i_Math : Cond.initialized "java/lang/Math" ∈ zB := (zB_of 58 (by decide +kernel) rfl)
theorem i_X0 : Cond.initialized RX0 ∈ zB := (zB_of 50 (by decide +kernel) rfl)
theorem i_X1 : Cond.initialized RX1 ∈ zB := (zB_of 54 (by decide +kernel) rfl)
theorem i_X2 : Cond.initialized RX2 ∈ zB := (zB_of 52 (by decide +kernel) rfl)
theorem i_X3 : Cond.initialized RX3 ∈ zB := (zB_of 51 (by decide +kernel) rfl)
theorem i_X4 : Cond.initialized RX4 ∈ zB := (zB_of 55 (by decide +kernel) rfl)
theorem i_X5 : Cond.initialized RX5 ∈ zB := (zB_of 56 (by decide +kernel) rfl)
theorem i_X6 : Cond.initialized RX6 ∈ zB := (zB_of 48 (by decide +kernel) rfl)
theorem i_X7 : Cond.initialized RX7 ∈ zB := (zB_of 53 (by decide +kernel) rfl)
theorem i_X8 : Cond.initialized RX8 ∈ zB := (zB_of 49 (by decide +kernel) rfl)
theorem i_X9 : Cond.initialized RX9 ∈ zB := (zB_of 57 (by decide +kernel) rfl)
theorem i_X10 : Cond.initialized RX10 ∈ zB := (zB_of 47 (by decide +kernel) rfl)
theorem i_X11 : Cond.initialized RX11 ∈ zB := (zB_of 59 (by decide +kernel) rfl)
theorem co_X0_init : Cond.code yX0_init cX0_init 1 none ∈ zB := (zB_of 103 (by decide +kernel) rfl)
theorem pl_X0_init : zPl yX0_init 0 := ⟨by decide +kernel, by decide +kernel, by decide +kernel⟩
theorem pn_X0_init : plainFor yX0_init = true := plainFor_of_name (by decide +kernel)
theorem co_X0_upperAt : Cond.code yX0_upperAt cX0_upperAt 2 (some .int) ∈ zB := (zB_of 440 (by decide +kernel) rfl)
theorem pl_X0_upperAt : zPl yX0_upperAt 1 := ⟨by decide +kernel, by decide +kernel, by decide +kernel⟩
theorem pn_X0_upperAt : plainFor yX0_upperAt = true := plainFor_of_name (by decide +kernel)
theorem co_X0_lowerAt : Cond.code yX0_lowerAt cX0_lowerAt 2 (some .int) ∈ zB := (zB_of 444 (by decide +kernel) rfl)
theorem pl_X0_lowerAt : zPl yX0_lowerAt 1 := ⟨by decide +kernel, by decide +kernel, by decide +kernel⟩
theorem pn_X0_lowerAt : plainFor yX0_lowerAt = true := plainFor_of_name (by decide +kernel)
theorem co_X0_put : Cond.code yX0_put cX0_put 4 none ∈ zB := (zB_of 448 (by decide +kernel) rfl)
theorem pl_X0_put : zPl yX0_put 3 := ⟨by decide +kernel, by decide +kernel, by decide +kernel⟩
theorem pn_X0_put : plainFor yX0_put = true := plainFor_of_name (by decide +kernel)
theorem co_X0_has : Cond.code yX0_has cX0_has 6 (some .boolean) ∈ zB := (zB_of 649 (by decide +kernel) rfl)
theorem pl_X0_has : zPl yX0_has 2 := ⟨by decide +kernel, by decide +kernel, by decide +kernel⟩
theorem pn_X0_has : plainFor yX0_has = true := plainFor_of_name (by decide +kernel)
theorem co_X0_add : Cond.code yX0_add cX0_add 5 (some .int) ∈ zB := (zB_of 457 (by decide +kernel) rfl)
theorem pl_X0_add : zPl yX0_add 3 := ⟨by decide +kernel, by decide +kernel, by decide +kernel⟩
theorem pn_X0_add : plainFor yX0_add = true := plainFor_of_name (by decide +kernel)
theorem co_X0_remove : Cond.code yX0_remove cX0_remove 3 none ∈ zB := (zB_of 658 (by decide +kernel) rfl)
theorem pl_X0_remove : zPl yX0_remove 1 := ⟨by decide +kernel, by decide +kernel, by decide +kernel⟩
theorem pn_X0_remove : plainFor yX0_remove = true := plainFor_of_name (by decide +kernel)
theorem co_X0_putInOrder : Cond.code yX0_putInOrder cX0_putInOrder 4 none ∈ zB := (zB_of 453 (by decide +kernel) rfl)
theorem pl_X0_putInOrder : zPl yX0_putInOrder 1 := ⟨by decide +kernel, by decide +kernel, by decide +kernel⟩
theorem pn_X0_putInOrder : plainFor yX0_putInOrder = true := plainFor_of_name (by decide +kernel)
theorem co_X0_countAbove : Cond.code yX0_countAbove cX0_countAbove 4 (some .int) ∈ zB := (zB_of 683 (by decide +kernel) rfl)
theorem pl_X0_countAbove : zPl yX0_countAbove 1 := ⟨by decide +kernel, by decide +kernel, by decide +kernel⟩
theorem pn_X0_countAbove : plainFor yX0_countAbove = true := plainFor_of_name (by decide +kernel)
theorem co_X0_copyFrom : Cond.code yX0_copyFrom cX0_copyFrom 3 none ∈ zB := (zB_of 436 (by decide +kernel) rfl)
theorem pl_X0_copyFrom : zPl yX0_copyFrom 1 := ⟨by decide +kernel, by decide +kernel, by decide +kernel⟩
theorem pn_X0_copyFrom : plainFor yX0_copyFrom = true := plainFor_of_name (by decide +kernel)
theorem co_X1_init : Cond.code yX1_init cX1_init 1 none ∈ zB := (zB_of 176 (by decide +kernel) rfl)
theorem pl_X1_init : zPl yX1_init 0 := ⟨by decide +kernel, by decide +kernel, by decide +kernel⟩
theorem pn_X1_init : plainFor yX1_init = true := plainFor_of_name (by decide +kernel)
theorem co_X1_begin : Cond.code yX1_begin cX1_begin 1 none ∈ zB := (zB_of 368 (by decide +kernel) rfl)
theorem pl_X1_begin : zPl yX1_begin 0 := ⟨by decide +kernel, by decide +kernel, by decide +kernel⟩
theorem pn_X1_begin : plainFor yX1_begin = true := plainFor_of_name (by decide +kernel)
theorem co_X1_add : Cond.code yX1_add cX1_add 7 none ∈ zB := (zB_of 376 (by decide +kernel) rfl)
theorem pl_X1_add : zPl yX1_add 1 := ⟨by decide +kernel, by decide +kernel, by decide +kernel⟩
theorem pn_X1_add : plainFor yX1_add = true := plainFor_of_name (by decide +kernel)
theorem co_X1_isTooGreat : Cond.code yX1_isTooGreat cX1_isTooGreat 8 (some .boolean) ∈ zB := (zB_of 379 (by decide +kernel) rfl)
theorem pl_X1_isTooGreat : zPl yX1_isTooGreat 3 := ⟨by decide +kernel, by decide +kernel, by decide +kernel⟩
theorem pn_X1_isTooGreat : plainFor yX1_isTooGreat = true := plainFor_of_name (by decide +kernel)
theorem co_X2_init : Cond.code yX2_init cX2_init 1 none ∈ zB := (zB_of 147 (by decide +kernel) rfl)
theorem pl_X2_init : zPl yX2_init 0 := ⟨by decide +kernel, by decide +kernel, by decide +kernel⟩
theorem pn_X2_init : plainFor yX2_init = true := plainFor_of_name (by decide +kernel)
theorem co_X2_unfold : Cond.code yX2_unfold cX2_unfold 3 none ∈ zB := (zB_of 328 (by decide +kernel) rfl)
theorem pl_X2_unfold : zPl yX2_unfold 1 := ⟨by decide +kernel, by decide +kernel, by decide +kernel⟩
theorem pn_X2_unfold : plainFor yX2_unfold = true := plainFor_of_name (by decide +kernel)
theorem co_X2_lookForPeriod : Cond.code yX2_lookForPeriod cX2_lookForPeriod 2 none ∈ zB := (zB_of 343 (by decide +kernel) rfl)
theorem pl_X2_lookForPeriod : zPl yX2_lookForPeriod 1 := ⟨by decide +kernel, by decide +kernel, by decide +kernel⟩
theorem pn_X2_lookForPeriod : plainFor yX2_lookForPeriod = true := plainFor_of_name (by decide +kernel)
theorem co_X2_chainConvergents : Cond.code yX2_chainConvergents cX2_chainConvergents 2 none ∈ zB := (zB_of 364 (by decide +kernel) rfl)
theorem pl_X2_chainConvergents : zPl yX2_chainConvergents 0 := ⟨by decide +kernel, by decide +kernel, by decide +kernel⟩
theorem pn_X2_chainConvergents : plainFor yX2_chainConvergents = true := plainFor_of_name (by decide +kernel)
theorem co_X2_termAt : Cond.code yX2_termAt cX2_termAt 2 (some .int) ∈ zB := (zB_of 372 (by decide +kernel) rfl)
theorem pl_X2_termAt : zPl yX2_termAt 1 := ⟨by decide +kernel, by decide +kernel, by decide +kernel⟩
theorem pn_X2_termAt : plainFor yX2_termAt = true := plainFor_of_name (by decide +kernel)
theorem co_X2_upperAt : Cond.code yX2_upperAt cX2_upperAt 2 (some .long) ∈ zB := (zB_of 516 (by decide +kernel) rfl)
theorem pl_X2_upperAt : zPl yX2_upperAt 1 := ⟨by decide +kernel, by decide +kernel, by decide +kernel⟩
theorem pn_X2_upperAt : plainFor yX2_upperAt = true := plainFor_of_name (by decide +kernel)
theorem co_X2_lowerAt : Cond.code yX2_lowerAt cX2_lowerAt 2 (some .long) ∈ zB := (zB_of 521 (by decide +kernel) rfl)
theorem pl_X2_lowerAt : zPl yX2_lowerAt 1 := ⟨by decide +kernel, by decide +kernel, by decide +kernel⟩
theorem pn_X2_lowerAt : plainFor yX2_lowerAt = true := plainFor_of_name (by decide +kernel)
theorem co_X2_comesAgain : Cond.code yX2_comesAgain cX2_comesAgain 1 (some .boolean) ∈ zB := (zB_of 483 (by decide +kernel) rfl)
theorem pl_X2_comesAgain : zPl yX2_comesAgain 0 := ⟨by decide +kernel, by decide +kernel, by decide +kernel⟩
theorem pn_X2_comesAgain : plainFor yX2_comesAgain = true := plainFor_of_name (by decide +kernel)
theorem co_X2_greatestOfPeriod : Cond.code yX2_greatestOfPeriod cX2_greatestOfPeriod 3 (some .int) ∈ zB := (zB_of 488 (by decide +kernel) rfl)
theorem pl_X2_greatestOfPeriod : zPl yX2_greatestOfPeriod 0 := ⟨by decide +kernel, by decide +kernel, by decide +kernel⟩
theorem pn_X2_greatestOfPeriod : plainFor yX2_greatestOfPeriod = true := plainFor_of_name (by decide +kernel)
theorem co_X2_unlikeOfPeriod : Cond.code yX2_unlikeOfPeriod cX2_unlikeOfPeriod 3 (some .int) ∈ zB := (zB_of 495 (by decide +kernel) rfl)
theorem pl_X2_unlikeOfPeriod : zPl yX2_unlikeOfPeriod 0 := ⟨by decide +kernel, by decide +kernel, by decide +kernel⟩
theorem pn_X2_unlikeOfPeriod : plainFor yX2_unlikeOfPeriod = true := plainFor_of_name (by decide +kernel)
theorem co_X2_isNewInPeriod : Cond.code yX2_isNewInPeriod cX2_isNewInPeriod 3 (some .boolean) ∈ zB := (zB_of 499 (by decide +kernel) rfl)
theorem pl_X2_isNewInPeriod : zPl yX2_isNewInPeriod 1 := ⟨by decide +kernel, by decide +kernel, by decide +kernel⟩
theorem pn_X2_isNewInPeriod : plainFor yX2_isNewInPeriod = true := plainFor_of_name (by decide +kernel)
theorem co_X2_isPeriodMirrored : Cond.code yX2_isPeriodMirrored cX2_isPeriodMirrored 3 (some .boolean) ∈ zB := (zB_of 503 (by decide +kernel) rfl)
theorem pl_X2_isPeriodMirrored : zPl yX2_isPeriodMirrored 0 := ⟨by decide +kernel, by decide +kernel, by decide +kernel⟩
theorem pn_X2_isPeriodMirrored : plainFor yX2_isPeriodMirrored = true := plainFor_of_name (by decide +kernel)
theorem co_X2_hasConvergent : Cond.code yX2_hasConvergent cX2_hasConvergent 6 (some .boolean) ∈ zB := (zB_of 673 (by decide +kernel) rfl)
theorem pl_X2_hasConvergent : zPl yX2_hasConvergent 2 := ⟨by decide +kernel, by decide +kernel, by decide +kernel⟩
theorem pn_X2_hasConvergent : plainFor yX2_hasConvergent = true := plainFor_of_name (by decide +kernel)
theorem co_X2_countShared : Cond.code yX2_countShared cX2_countShared 3 (some .int) ∈ zB := (zB_of 717 (by decide +kernel) rfl)
theorem pl_X2_countShared : zPl yX2_countShared 1 := ⟨by decide +kernel, by decide +kernel, by decide +kernel⟩
theorem pn_X2_countShared : plainFor yX2_countShared = true := plainFor_of_name (by decide +kernel)
theorem co_X3_init : Cond.code yX3_init cX3_init 2 none ∈ zB := (zB_of 130 (by decide +kernel) rfl)
theorem pl_X3_init : zPl yX3_init 0 := ⟨by decide +kernel, by decide +kernel, by decide +kernel⟩
theorem pn_X3_init : plainFor yX3_init = true := plainFor_of_name (by decide +kernel)
theorem co_X3_keep : Cond.code yX3_keep cX3_keep 2 none ∈ zB := (zB_of 420 (by decide +kernel) rfl)
theorem pl_X3_keep : zPl yX3_keep 1 := ⟨by decide +kernel, by decide +kernel, by decide +kernel⟩
theorem pn_X3_keep : plainFor yX3_keep = true := plainFor_of_name (by decide +kernel)
theorem co_X3_takeBack : Cond.code yX3_takeBack cX3_takeBack 2 none ∈ zB := (zB_of 692 (by decide +kernel) rfl)
theorem pl_X3_takeBack : zPl yX3_takeBack 1 := ⟨by decide +kernel, by decide +kernel, by decide +kernel⟩
theorem pn_X3_takeBack : plainFor yX3_takeBack = true := plainFor_of_name (by decide +kernel)
theorem co_X3_dropOldest : Cond.code yX3_dropOldest cX3_dropOldest 3 none ∈ zB := (zB_of 424 (by decide +kernel) rfl)
theorem pl_X3_dropOldest : zPl yX3_dropOldest 0 := ⟨by decide +kernel, by decide +kernel, by decide +kernel⟩
theorem pn_X3_dropOldest : plainFor yX3_dropOldest = true := plainFor_of_name (by decide +kernel)
theorem co_X4_init : Cond.code yX4_init cX4_init 1 none ∈ zB := (zB_of 241 (by decide +kernel) rfl)
theorem pl_X4_init : zPl yX4_init 0 := ⟨by decide +kernel, by decide +kernel, by decide +kernel⟩
theorem pn_X4_init : plainFor yX4_init = true := plainFor_of_name (by decide +kernel)
theorem co_X4_find : Cond.code yX4_find cX4_find 5 none ∈ zB := (zB_of 533 (by decide +kernel) rfl)
theorem pl_X4_find : zPl yX4_find 3 := ⟨by decide +kernel, by decide +kernel, by decide +kernel⟩
theorem pn_X4_find : plainFor yX4_find = true := plainFor_of_name (by decide +kernel)
theorem co_X4_takeMediant : Cond.code yX4_takeMediant cX4_takeMediant 6 none ∈ zB := (zB_of 537 (by decide +kernel) rfl)
theorem pl_X4_takeMediant : zPl yX4_takeMediant 1 := ⟨by decide +kernel, by decide +kernel, by decide +kernel⟩
theorem pn_X4_takeMediant : plainFor yX4_takeMediant = true := plainFor_of_name (by decide +kernel)
theorem co_X4_isAboveNearer : Cond.code yX4_isAboveNearer cX4_isAboveNearer 2 (some .boolean) ∈ zB := (zB_of 543 (by decide +kernel) rfl)
theorem pl_X4_isAboveNearer : zPl yX4_isAboveNearer 1 := ⟨by decide +kernel, by decide +kernel, by decide +kernel⟩
theorem pn_X4_isAboveNearer : plainFor yX4_isAboveNearer = true := plainFor_of_name (by decide +kernel)
theorem co_X5_init : Cond.code yX5_init cX5_init 1 none ∈ zB := (zB_of 268 (by decide +kernel) rfl)
theorem pl_X5_init : zPl yX5_init 0 := ⟨by decide +kernel, by decide +kernel, by decide +kernel⟩
theorem pn_X5_init : plainFor yX5_init = true := plainFor_of_name (by decide +kernel)
theorem co_X5_countAll : Cond.code yX5_countAll cX5_countAll 3 (some .int) ∈ zB := (zB_of 583 (by decide +kernel) rfl)
theorem pl_X5_countAll : zPl yX5_countAll 2 := ⟨by decide +kernel, by decide +kernel, by decide +kernel⟩
theorem pn_X5_countAll : plainFor yX5_countAll = true := plainFor_of_name (by decide +kernel)
theorem co_X5_find : Cond.code yX5_find cX5_find 8 (some .boolean) ∈ zB := (zB_of 567 (by decide +kernel) rfl)
theorem pl_X5_find : zPl yX5_find 3 := ⟨by decide +kernel, by decide +kernel, by decide +kernel⟩
theorem pn_X5_find : plainFor yX5_find = true := plainFor_of_name (by decide +kernel)
theorem co_X5_goToRootOf : Cond.code yX5_goToRootOf cX5_goToRootOf 3 none ∈ zB := (zB_of 573 (by decide +kernel) rfl)
theorem pl_X5_goToRootOf : zPl yX5_goToRootOf 1 := ⟨by decide +kernel, by decide +kernel, by decide +kernel⟩
theorem pn_X5_goToRootOf : plainFor yX5_goToRootOf = true := plainFor_of_name (by decide +kernel)
theorem co_X5_findLeast : Cond.code yX5_findLeast cX5_findLeast 3 (some .boolean) ∈ zB := (zB_of 592 (by decide +kernel) rfl)
theorem pl_X5_findLeast : zPl yX5_findLeast 1 := ⟨by decide +kernel, by decide +kernel, by decide +kernel⟩
theorem pn_X5_findLeast : plainFor yX5_findLeast = true := plainFor_of_name (by decide +kernel)
theorem co_X6_init : Cond.code yX6_init cX6_init 1 none ∈ zB := (zB_of 72 (by decide +kernel) rfl)
theorem pl_X6_init : zPl yX6_init 0 := ⟨by decide +kernel, by decide +kernel, by decide +kernel⟩
theorem pn_X6_init : plainFor yX6_init = true := plainFor_of_name (by decide +kernel)
theorem co_X6_copyFrom : Cond.code yX6_copyFrom cX6_copyFrom 2 none ∈ zB := (zB_of 428 (by decide +kernel) rfl)
theorem pl_X6_copyFrom : zPl yX6_copyFrom 1 := ⟨by decide +kernel, by decide +kernel, by decide +kernel⟩
theorem pn_X6_copyFrom : plainFor yX6_copyFrom = true := plainFor_of_name (by decide +kernel)
theorem co_X7_init : Cond.code yX7_init cX7_init 1 none ∈ zB := (zB_of 153 (by decide +kernel) rfl)
theorem pl_X7_init : zPl yX7_init 0 := ⟨by decide +kernel, by decide +kernel, by decide +kernel⟩
theorem pn_X7_init : plainFor yX7_init = true := plainFor_of_name (by decide +kernel)
theorem co_X7_begin : Cond.code yX7_begin cX7_begin 9 none ∈ zB := (zB_of 332 (by decide +kernel) rfl)
theorem pl_X7_begin : zPl yX7_begin 3 := ⟨by decide +kernel, by decide +kernel, by decide +kernel⟩
theorem pn_X7_begin : plainFor yX7_begin = true := plainFor_of_name (by decide +kernel)
theorem co_X7_whole : Cond.code yX7_whole cX7_whole 1 (some .long) ∈ zB := (zB_of 351 (by decide +kernel) rfl)
theorem pl_X7_whole : zPl yX7_whole 0 := ⟨by decide +kernel, by decide +kernel, by decide +kernel⟩
theorem pn_X7_whole : plainFor yX7_whole = true := plainFor_of_name (by decide +kernel)
theorem co_X7_advance : Cond.code yX7_advance cX7_advance 1 none ∈ zB := (zB_of 359 (by decide +kernel) rfl)
theorem pl_X7_advance : zPl yX7_advance 0 := ⟨by decide +kernel, by decide +kernel, by decide +kernel⟩
theorem pn_X7_advance : plainFor yX7_advance = true := plainFor_of_name (by decide +kernel)
theorem co_X7_isReduced : Cond.code yX7_isReduced cX7_isReduced 1 (some .boolean) ∈ zB := (zB_of 347 (by decide +kernel) rfl)
theorem pl_X7_isReduced : zPl yX7_isReduced 0 := ⟨by decide +kernel, by decide +kernel, by decide +kernel⟩
theorem pn_X7_isReduced : plainFor yX7_isReduced = true := plainFor_of_name (by decide +kernel)
theorem co_X7_rootOf : Cond.code yX7_rootOf cX7_rootOf 6 (some .long) ∈ zB := (zB_of 338 (by decide +kernel) rfl)
theorem pl_X7_rootOf : zPl yX7_rootOf 1 := ⟨by decide +kernel, by decide +kernel, by decide +kernel⟩
theorem pn_X7_rootOf : plainFor yX7_rootOf = true := plainFor_of_name (by decide +kernel)
theorem co_X8_init : Cond.code yX8_init cX8_init 1 none ∈ zB := (zB_of 78 (by decide +kernel) rfl)
theorem pl_X8_init : zPl yX8_init 0 := ⟨by decide +kernel, by decide +kernel, by decide +kernel⟩
theorem pn_X8_init : plainFor yX8_init = true := plainFor_of_name (by decide +kernel)
theorem co_X8_set : Cond.code yX8_set cX8_set 4 none ∈ zB := (zB_of 432 (by decide +kernel) rfl)
theorem pl_X8_set : zPl yX8_set 3 := ⟨by decide +kernel, by decide +kernel, by decide +kernel⟩
theorem pn_X8_set : plainFor yX8_set = true := plainFor_of_name (by decide +kernel)
theorem co_X8_isPassedBy : Cond.code yX8_isPassedBy cX8_isPassedBy 8 (some .boolean) ∈ zB := (zB_of 465 (by decide +kernel) rfl)
theorem pl_X8_isPassedBy : zPl yX8_isPassedBy 2 := ⟨by decide +kernel, by decide +kernel, by decide +kernel⟩
theorem pn_X8_isPassedBy : plainFor yX8_isPassedBy = true := plainFor_of_name (by decide +kernel)
theorem co_X8_isNearer : Cond.code yX8_isNearer cX8_isNearer 14 (some .boolean) ∈ zB := (zB_of 461 (by decide +kernel) rfl)
theorem pl_X8_isNearer : zPl yX8_isNearer 4 := ⟨by decide +kernel, by decide +kernel, by decide +kernel⟩
theorem pn_X8_isNearer : plainFor yX8_isNearer = true := plainFor_of_name (by decide +kernel)
theorem co_X9_init : Cond.code yX9_init cX9_init 1 none ∈ zB := (zB_of 296 (by decide +kernel) rfl)
theorem pl_X9_init : zPl yX9_init 0 := ⟨by decide +kernel, by decide +kernel, by decide +kernel⟩
theorem pn_X9_init : plainFor yX9_init = true := plainFor_of_name (by decide +kernel)
theorem co_X9_append : Cond.code yX9_append cX9_append 2 none ∈ zB := (zB_of 700 (by decide +kernel) rfl)
theorem pl_X9_append : zPl yX9_append 1 := ⟨by decide +kernel, by decide +kernel, by decide +kernel⟩
theorem pn_X9_append : plainFor yX9_append = true := plainFor_of_name (by decide +kernel)
theorem co_X9_characterAt : Cond.code yX9_characterAt cX9_characterAt 2 (some .char) ∈ zB := (zB_of 609 (by decide +kernel) rfl)
theorem pl_X9_characterAt : zPl yX9_characterAt 1 := ⟨by decide +kernel, by decide +kernel, by decide +kernel⟩
theorem pn_X9_characterAt : plainFor yX9_characterAt = true := plainFor_of_name (by decide +kernel)
theorem co_X9_digitAt : Cond.code yX9_digitAt cX9_digitAt 3 (some .int) ∈ zB := (zB_of 617 (by decide +kernel) rfl)
theorem pl_X9_digitAt : zPl yX9_digitAt 1 := ⟨by decide +kernel, by decide +kernel, by decide +kernel⟩
theorem pn_X9_digitAt : plainFor yX9_digitAt = true := plainFor_of_name (by decide +kernel)
theorem co_X9_hasFault : Cond.code yX9_hasFault cX9_hasFault 1 (some .boolean) ∈ zB := (zB_of 629 (by decide +kernel) rfl)
theorem pl_X9_hasFault : zPl yX9_hasFault 0 := ⟨by decide +kernel, by decide +kernel, by decide +kernel⟩
theorem pn_X9_hasFault : plainFor yX9_hasFault = true := plainFor_of_name (by decide +kernel)
theorem co_X9_termAt : Cond.code yX9_termAt cX9_termAt 2 (some .int) ∈ zB := (zB_of 638 (by decide +kernel) rfl)
theorem pl_X9_termAt : zPl yX9_termAt 1 := ⟨by decide +kernel, by decide +kernel, by decide +kernel⟩
theorem pn_X9_termAt : plainFor yX9_termAt = true := plainFor_of_name (by decide +kernel)
theorem co_X9_read : Cond.code yX9_read cX9_read 5 none ∈ zB := (zB_of 605 (by decide +kernel) rfl)
theorem pl_X9_read : zPl yX9_read 0 := ⟨by decide +kernel, by decide +kernel, by decide +kernel⟩
theorem pn_X9_read : plainFor yX9_read = true := plainFor_of_name (by decide +kernel)
theorem co_X9_readNumber : Cond.code yX9_readNumber cX9_readNumber 5 (some .int) ∈ zB := (zB_of 613 (by decide +kernel) rfl)
theorem pl_X9_readNumber : zPl yX9_readNumber 2 := ⟨by decide +kernel, by decide +kernel, by decide +kernel⟩
theorem pn_X9_readNumber : plainFor yX9_readNumber = true := plainFor_of_name (by decide +kernel)
theorem co_X9_setFault : Cond.code yX9_setFault cX9_setFault 3 none ∈ zB := (zB_of 621 (by decide +kernel) rfl)
theorem pl_X9_setFault : zPl yX9_setFault 2 := ⟨by decide +kernel, by decide +kernel, by decide +kernel⟩
theorem pn_X9_setFault : plainFor yX9_setFault = true := plainFor_of_name (by decide +kernel)
theorem co_X9_addTerm : Cond.code yX9_addTerm cX9_addTerm 2 none ∈ zB := (zB_of 625 (by decide +kernel) rfl)
theorem pl_X9_addTerm : zPl yX9_addTerm 1 := ⟨by decide +kernel, by decide +kernel, by decide +kernel⟩
theorem pn_X9_addTerm : plainFor yX9_addTerm = true := plainFor_of_name (by decide +kernel)
theorem co_X9_chainTerms : Cond.code yX9_chainTerms cX9_chainTerms 3 none ∈ zB := (zB_of 633 (by decide +kernel) rfl)
theorem pl_X9_chainTerms : zPl yX9_chainTerms 1 := ⟨by decide +kernel, by decide +kernel, by decide +kernel⟩
theorem pn_X9_chainTerms : plainFor yX9_chainTerms = true := plainFor_of_name (by decide +kernel)
theorem co_X10_init : Cond.code yX10_init cX10_init 1 none ∈ zB := (zB_of 64 (by decide +kernel) rfl)
theorem pl_X10_init : zPl yX10_init 0 := ⟨by decide +kernel, by decide +kernel, by decide +kernel⟩
theorem pn_X10_init : plainFor yX10_init = true := plainFor_of_name (by decide +kernel)
theorem co_X10_surd : Cond.code yX10_surd cX10_surd 4 (some .int) ∈ zB := (zB_of 407 (by decide +kernel) rfl)
theorem pl_X10_surd : zPl yX10_surd 3 := ⟨by decide +kernel, by decide +kernel, by decide +kernel⟩
theorem pn_X10_surd : plainFor yX10_surd = true := plainFor_of_name (by decide +kernel)
theorem co_X10_partOf : Cond.code yX10_partOf cX10_partOf 2 (some .int) ∈ zB := (zB_of 470 (by decide +kernel) rfl)
theorem pl_X10_partOf : zPl yX10_partOf 1 := ⟨by decide +kernel, by decide +kernel, by decide +kernel⟩
theorem pn_X10_partOf : plainFor yX10_partOf = true := plainFor_of_name (by decide +kernel)
theorem co_X10_term : Cond.code yX10_term cX10_term 2 (some .int) ∈ zB := (zB_of 474 (by decide +kernel) rfl)
theorem pl_X10_term : zPl yX10_term 1 := ⟨by decide +kernel, by decide +kernel, by decide +kernel⟩
theorem pn_X10_term : plainFor yX10_term = true := plainFor_of_name (by decide +kernel)
theorem co_X10_again : Cond.code yX10_again cX10_again 2 (some .int) ∈ zB := (zB_of 479 (by decide +kernel) rfl)
theorem pl_X10_again : zPl yX10_again 1 := ⟨by decide +kernel, by decide +kernel, by decide +kernel⟩
theorem pn_X10_again : plainFor yX10_again = true := plainFor_of_name (by decide +kernel)
theorem co_X10_convergent : Cond.code yX10_convergent cX10_convergent 3 (some .long) ∈ zB := (zB_of 510 (by decide +kernel) rfl)
theorem pl_X10_convergent : zPl yX10_convergent 2 := ⟨by decide +kernel, by decide +kernel, by decide +kernel⟩
theorem pn_X10_convergent : plainFor yX10_convergent = true := plainFor_of_name (by decide +kernel)
theorem co_X10_between : Cond.code yX10_between cX10_between 4 (some .long) ∈ zB := (zB_of 525 (by decide +kernel) rfl)
theorem pl_X10_between : zPl yX10_between 3 := ⟨by decide +kernel, by decide +kernel, by decide +kernel⟩
theorem pn_X10_between : plainFor yX10_between = true := plainFor_of_name (by decide +kernel)
theorem co_X10_nearest : Cond.code yX10_nearest cX10_nearest 3 (some .int) ∈ zB := (zB_of 529 (by decide +kernel) rfl)
theorem pl_X10_nearest : zPl yX10_nearest 2 := ⟨by decide +kernel, by decide +kernel, by decide +kernel⟩
theorem pn_X10_nearest : plainFor yX10_nearest = true := plainFor_of_name (by decide +kernel)
theorem co_X10_beside : Cond.code yX10_beside cX10_beside 4 (some .int) ∈ zB := (zB_of 552 (by decide +kernel) rfl)
theorem pl_X10_beside : zPl yX10_beside 3 := ⟨by decide +kernel, by decide +kernel, by decide +kernel⟩
theorem pn_X10_beside : plainFor yX10_beside = true := plainFor_of_name (by decide +kernel)
theorem co_X10_records : Cond.code yX10_records cX10_records 2 (some .int) ∈ zB := (zB_of 556 (by decide +kernel) rfl)
theorem pl_X10_records : zPl yX10_records 1 := ⟨by decide +kernel, by decide +kernel, by decide +kernel⟩
theorem pn_X10_records : plainFor yX10_records = true := plainFor_of_name (by decide +kernel)
theorem co_X10_solution : Cond.code yX10_solution cX10_solution 4 (some .int) ∈ zB := (zB_of 560 (by decide +kernel) rfl)
theorem pl_X10_solution : zPl yX10_solution 3 := ⟨by decide +kernel, by decide +kernel, by decide +kernel⟩
theorem pn_X10_solution : plainFor yX10_solution = true := plainFor_of_name (by decide +kernel)
theorem co_X10_solutions : Cond.code yX10_solutions cX10_solutions 2 (some .int) ∈ zB := (zB_of 579 (by decide +kernel) rfl)
theorem pl_X10_solutions : zPl yX10_solutions 1 := ⟨by decide +kernel, by decide +kernel, by decide +kernel⟩
theorem pn_X10_solutions : plainFor yX10_solutions = true := plainFor_of_name (by decide +kernel)
theorem co_X10_leastSolution : Cond.code yX10_leastSolution cX10_leastSolution 2 (some .long) ∈ zB := (zB_of 588 (by decide +kernel) rfl)
theorem pl_X10_leastSolution : zPl yX10_leastSolution 1 := ⟨by decide +kernel, by decide +kernel, by decide +kernel⟩
theorem pn_X10_leastSolution : plainFor yX10_leastSolution = true := plainFor_of_name (by decide +kernel)
theorem co_X10_note : Cond.code yX10_note cX10_note 1 (some .int) ∈ zB := (zB_of 601 (by decide +kernel) rfl)
theorem pl_X10_note : zPl yX10_note 0 := ⟨by decide +kernel, by decide +kernel, by decide +kernel⟩
theorem pn_X10_note : plainFor yX10_note = true := plainFor_of_name (by decide +kernel)
theorem co_X10_strike : Cond.code yX10_strike cX10_strike 2 (some .int) ∈ zB := (zB_of 654 (by decide +kernel) rfl)
theorem pl_X10_strike : zPl yX10_strike 1 := ⟨by decide +kernel, by decide +kernel, by decide +kernel⟩
theorem pn_X10_strike : plainFor yX10_strike = true := plainFor_of_name (by decide +kernel)
theorem co_X10_strikeAll : Cond.code yX10_strikeAll cX10_strikeAll 2 (some .int) ∈ zB := (zB_of 662 (by decide +kernel) rfl)
theorem pl_X10_strikeAll : zPl yX10_strikeAll 0 := ⟨by decide +kernel, by decide +kernel, by decide +kernel⟩
theorem pn_X10_strikeAll : plainFor yX10_strikeAll = true := plainFor_of_name (by decide +kernel)
theorem co_X10_noteOf : Cond.code yX10_noteOf cX10_noteOf 5 (some .int) ∈ zB := (zB_of 666 (by decide +kernel) rfl)
theorem pl_X10_noteOf : zPl yX10_noteOf 2 := ⟨by decide +kernel, by decide +kernel, by decide +kernel⟩
theorem pn_X10_noteOf : plainFor yX10_noteOf = true := plainFor_of_name (by decide +kernel)
theorem co_X10_count : Cond.code yX10_count cX10_count 2 (some .int) ∈ zB := (zB_of 679 (by decide +kernel) rfl)
theorem pl_X10_count : zPl yX10_count 1 := ⟨by decide +kernel, by decide +kernel, by decide +kernel⟩
theorem pn_X10_count : plainFor yX10_count = true := plainFor_of_name (by decide +kernel)
theorem co_X10_undo : Cond.code yX10_undo cX10_undo 1 (some .int) ∈ zB := (zB_of 688 (by decide +kernel) rfl)
theorem pl_X10_undo : zPl yX10_undo 0 := ⟨by decide +kernel, by decide +kernel, by decide +kernel⟩
theorem pn_X10_undo : plainFor yX10_undo = true := plainFor_of_name (by decide +kernel)
theorem co_X10_type : Cond.code yX10_type cX10_type 2 (some .int) ∈ zB := (zB_of 696 (by decide +kernel) rfl)
theorem pl_X10_type : zPl yX10_type 1 := ⟨by decide +kernel, by decide +kernel, by decide +kernel⟩
theorem pn_X10_type : plainFor yX10_type = true := plainFor_of_name (by decide +kernel)
theorem co_X10_clearText : Cond.code yX10_clearText cX10_clearText 2 (some .int) ∈ zB := (zB_of 704 (by decide +kernel) rfl)
theorem pl_X10_clearText : zPl yX10_clearText 0 := ⟨by decide +kernel, by decide +kernel, by decide +kernel⟩
theorem pn_X10_clearText : plainFor yX10_clearText = true := plainFor_of_name (by decide +kernel)
theorem co_X10_fault : Cond.code yX10_fault cX10_fault 2 (some .int) ∈ zB := (zB_of 708 (by decide +kernel) rfl)
theorem pl_X10_fault : zPl yX10_fault 1 := ⟨by decide +kernel, by decide +kernel, by decide +kernel⟩
theorem pn_X10_fault : plainFor yX10_fault = true := plainFor_of_name (by decide +kernel)
theorem co_X10_told : Cond.code yX10_told cX10_told 2 (some .long) ∈ zB := (zB_of 712 (by decide +kernel) rfl)
theorem pl_X10_told : zPl yX10_told 1 := ⟨by decide +kernel, by decide +kernel, by decide +kernel⟩
theorem pn_X10_told : plainFor yX10_told = true := plainFor_of_name (by decide +kernel)
theorem co_X10_toldAbove : Cond.code yX10_toldAbove cX10_toldAbove 1 (some .long) ∈ zB := (zB_of 722 (by decide +kernel) rfl)
theorem pl_X10_toldAbove : zPl yX10_toldAbove 0 := ⟨by decide +kernel, by decide +kernel, by decide +kernel⟩
theorem pn_X10_toldAbove : plainFor yX10_toldAbove = true := plainFor_of_name (by decide +kernel)
theorem co_X10_toldPart : Cond.code yX10_toldPart cX10_toldPart 2 (some .long) ∈ zB := (zB_of 726 (by decide +kernel) rfl)
theorem pl_X10_toldPart : zPl yX10_toldPart 1 := ⟨by decide +kernel, by decide +kernel, by decide +kernel⟩
theorem pn_X10_toldPart : plainFor yX10_toldPart = true := plainFor_of_name (by decide +kernel)
theorem co_X10_neighbourPart : Cond.code yX10_neighbourPart cX10_neighbourPart 3 (some .int) ∈ zB := (zB_of 547 (by decide +kernel) rfl)
theorem pl_X10_neighbourPart : zPl yX10_neighbourPart 2 := ⟨by decide +kernel, by decide +kernel, by decide +kernel⟩
theorem pn_X10_neighbourPart : plainFor yX10_neighbourPart = true := plainFor_of_name (by decide +kernel)
theorem co_X10_isWithin : Cond.code yX10_isWithin cX10_isWithin 3 (some .boolean) ∈ zB := (zB_of 410 (by decide +kernel) rfl)
theorem pl_X10_isWithin : zPl yX10_isWithin 3 := ⟨by decide +kernel, by decide +kernel, by decide +kernel⟩
theorem pn_X10_isWithin : plainFor yX10_isWithin = true := plainFor_of_name (by decide +kernel)
theorem co_X10_isRightSide : Cond.code yX10_isRightSide cX10_isRightSide 1 (some .boolean) ∈ zB := (zB_of 563 (by decide +kernel) rfl)
theorem pl_X10_isRightSide : zPl yX10_isRightSide 1 := ⟨by decide +kernel, by decide +kernel, by decide +kernel⟩
theorem pn_X10_isRightSide : plainFor yX10_isRightSide = true := plainFor_of_name (by decide +kernel)
theorem co_X10_isSquare : Cond.code yX10_isSquare cX10_isSquare 3 (some .boolean) ∈ zB := (zB_of 414 (by decide +kernel) rfl)
theorem pl_X10_isSquare : zPl yX10_isSquare 1 := ⟨by decide +kernel, by decide +kernel, by decide +kernel⟩
theorem pn_X10_isSquare : plainFor yX10_isSquare = true := plainFor_of_name (by decide +kernel)
theorem co_X10_fitsBook : Cond.code yX10_fitsBook cX10_fitsBook 1 (some .boolean) ∈ zB := (zB_of 642 (by decide +kernel) rfl)
theorem pl_X10_fitsBook : zPl yX10_fitsBook 1 := ⟨by decide +kernel, by decide +kernel, by decide +kernel⟩
theorem pn_X10_fitsBook : plainFor yX10_fitsBook = true := plainFor_of_name (by decide +kernel)
theorem co_X10_oneIf : Cond.code yX10_oneIf cX10_oneIf 1 (some .int) ∈ zB := (zB_of 506 (by decide +kernel) rfl)
theorem pl_X10_oneIf : zPl yX10_oneIf 1 := ⟨by decide +kernel, by decide +kernel, by decide +kernel⟩
theorem pn_X10_oneIf : plainFor yX10_oneIf = true := plainFor_of_name (by decide +kernel)
theorem co_X11_init : Cond.code yX11_init cX11_init 1 none ∈ zB := (zB_of 731 (by decide +kernel) rfl)
theorem pl_X11_init : zPl yX11_init 0 := ⟨by decide +kernel, by decide +kernel, by decide +kernel⟩
theorem pn_X11_init : plainFor yX11_init = true := plainFor_of_name (by decide +kernel)
theorem co_X11_in : Cond.code yX11_in cX11_in 6 (some .boolean) ∈ zB := (zB_of 808 (by decide +kernel) rfl)
theorem pl_X11_in : zPl yX11_in 3 := ⟨by decide +kernel, by decide +kernel, by decide +kernel⟩
theorem pn_X11_in : plainFor yX11_in = true := plainFor_of_name (by decide +kernel)
theorem co_X11_changes : Cond.code yX11_changes cX11_changes 2 none ∈ zB := (zB_of 820 (by decide +kernel) rfl)
theorem pl_X11_changes : zPl yX11_changes 0 := ⟨by decide +kernel, by decide +kernel, by decide +kernel⟩
theorem pn_X11_changes : plainFor yX11_changes = true := plainFor_of_name (by decide +kernel)
theorem co_X11_root : Cond.code yX11_root cX11_root 9 (some .long) ∈ zB := (zB_of 814 (by decide +kernel) rfl)
theorem pl_X11_root : zPl yX11_root 1 := ⟨by decide +kernel, by decide +kernel, by decide +kernel⟩
theorem pn_X11_root : plainFor yX11_root = true := plainFor_of_name (by decide +kernel)
theorem co_X11_down : Cond.code yX11_down cX11_down 6 (some .long) ∈ zB := (zB_of 840 (by decide +kernel) rfl)
theorem pl_X11_down : zPl yX11_down 2 := ⟨by decide +kernel, by decide +kernel, by decide +kernel⟩
theorem pn_X11_down : plainFor yX11_down = true := plainFor_of_name (by decide +kernel)
theorem co_X11_surd : Cond.code yX11_surd cX11_surd 6 (some .int) ∈ zB := (zB_of 803 (by decide +kernel) rfl)
theorem pl_X11_surd : zPl yX11_surd 3 := ⟨by decide +kernel, by decide +kernel, by decide +kernel⟩
theorem pn_X11_surd : plainFor yX11_surd = true := plainFor_of_name (by decide +kernel)
theorem co_X11_partOf : Cond.code yX11_partOf cX11_partOf 2 (some .int) ∈ zB := (zB_of 824 (by decide +kernel) rfl)
theorem pl_X11_partOf : zPl yX11_partOf 1 := ⟨by decide +kernel, by decide +kernel, by decide +kernel⟩
theorem pn_X11_partOf : plainFor yX11_partOf = true := plainFor_of_name (by decide +kernel)
theorem co_X11_laysOf : Cond.code yX11_laysOf cX11_laysOf 16 none ∈ zB := (zB_of 837 (by decide +kernel) rfl)
theorem pl_X11_laysOf : zPl yX11_laysOf 3 := ⟨by decide +kernel, by decide +kernel, by decide +kernel⟩
theorem pn_X11_laysOf : plainFor yX11_laysOf = true := plainFor_of_name (by decide +kernel)
theorem co_X11_lays : Cond.code yX11_lays cX11_lays 3 none ∈ zB := (zB_of 833 (by decide +kernel) rfl)
theorem pl_X11_lays : zPl yX11_lays 0 := ⟨by decide +kernel, by decide +kernel, by decide +kernel⟩
theorem pn_X11_lays : plainFor yX11_lays = true := plainFor_of_name (by decide +kernel)
theorem co_X11_term : Cond.code yX11_term cX11_term 2 (some .int) ∈ zB := (zB_of 828 (by decide +kernel) rfl)
theorem pl_X11_term : zPl yX11_term 1 := ⟨by decide +kernel, by decide +kernel, by decide +kernel⟩
theorem pn_X11_term : plainFor yX11_term = true := plainFor_of_name (by decide +kernel)
theorem co_X11_period : Cond.code yX11_period cX11_period 3 (some .int) ∈ zB := (zB_of 849 (by decide +kernel) rfl)
theorem pl_X11_period : zPl yX11_period 0 := ⟨by decide +kernel, by decide +kernel, by decide +kernel⟩
theorem pn_X11_period : plainFor yX11_period = true := plainFor_of_name (by decide +kernel)
theorem co_X11_greatest : Cond.code yX11_greatest cX11_greatest 4 (some .int) ∈ zB := (zB_of 854 (by decide +kernel) rfl)
theorem pl_X11_greatest : zPl yX11_greatest 1 := ⟨by decide +kernel, by decide +kernel, by decide +kernel⟩
theorem pn_X11_greatest : plainFor yX11_greatest = true := plainFor_of_name (by decide +kernel)
theorem co_X11_unlike : Cond.code yX11_unlike cX11_unlike 6 (some .int) ∈ zB := (zB_of 858 (by decide +kernel) rfl)
theorem pl_X11_unlike : zPl yX11_unlike 1 := ⟨by decide +kernel, by decide +kernel, by decide +kernel⟩
theorem pn_X11_unlike : plainFor yX11_unlike = true := plainFor_of_name (by decide +kernel)
theorem co_X11_isMirror : Cond.code yX11_isMirror cX11_isMirror 4 (some .boolean) ∈ zB := (zB_of 862 (by decide +kernel) rfl)
theorem pl_X11_isMirror : zPl yX11_isMirror 1 := ⟨by decide +kernel, by decide +kernel, by decide +kernel⟩
theorem pn_X11_isMirror : plainFor yX11_isMirror = true := plainFor_of_name (by decide +kernel)
theorem co_X11_again : Cond.code yX11_again cX11_again 3 (some .int) ∈ zB := (zB_of 844 (by decide +kernel) rfl)
theorem pl_X11_again : zPl yX11_again 1 := ⟨by decide +kernel, by decide +kernel, by decide +kernel⟩
theorem pn_X11_again : plainFor yX11_again = true := plainFor_of_name (by decide +kernel)
theorem co_X11_size : Cond.code yX11_size cX11_size 2 (some .long) ∈ zB := (zB_of 882 (by decide +kernel) rfl)
theorem pl_X11_size : zPl yX11_size 1 := ⟨by decide +kernel, by decide +kernel, by decide +kernel⟩
theorem pn_X11_size : plainFor yX11_size = true := plainFor_of_name (by decide +kernel)
theorem co_X11_begins : Cond.code yX11_begins cX11_begins 1 none ∈ zB := (zB_of 875 (by decide +kernel) rfl)
theorem pl_X11_begins : zPl yX11_begins 0 := ⟨by decide +kernel, by decide +kernel, by decide +kernel⟩
theorem pn_X11_begins : plainFor yX11_begins = true := plainFor_of_name (by decide +kernel)
theorem co_X11_goesOn : Cond.code yX11_goesOn cX11_goesOn 9 (some .boolean) ∈ zB := (zB_of 879 (by decide +kernel) rfl)
theorem pl_X11_goesOn : zPl yX11_goesOn 1 := ⟨by decide +kernel, by decide +kernel, by decide +kernel⟩
theorem pn_X11_goesOn : plainFor yX11_goesOn = true := plainFor_of_name (by decide +kernel)
theorem co_X11_goesTo : Cond.code yX11_goesTo cX11_goesTo 4 (some .boolean) ∈ zB := (zB_of 871 (by decide +kernel) rfl)
theorem pl_X11_goesTo : zPl yX11_goesTo 1 := ⟨by decide +kernel, by decide +kernel, by decide +kernel⟩
theorem pn_X11_goesTo : plainFor yX11_goesTo = true := plainFor_of_name (by decide +kernel)
theorem co_X11_convergent : Cond.code yX11_convergent cX11_convergent 3 (some .long) ∈ zB := (zB_of 866 (by decide +kernel) rfl)
theorem pl_X11_convergent : zPl yX11_convergent 2 := ⟨by decide +kernel, by decide +kernel, by decide +kernel⟩
theorem pn_X11_convergent : plainFor yX11_convergent = true := plainFor_of_name (by decide +kernel)
theorem co_X11_between : Cond.code yX11_between cX11_between 6 (some .long) ∈ zB := (zB_of 889 (by decide +kernel) rfl)
theorem pl_X11_between : zPl yX11_between 3 := ⟨by decide +kernel, by decide +kernel, by decide +kernel⟩
theorem pn_X11_between : plainFor yX11_between = true := plainFor_of_name (by decide +kernel)
theorem co_X11_isAbove : Cond.code yX11_isAbove cX11_isAbove 8 (some .boolean) ∈ zB := (zB_of 910 (by decide +kernel) rfl)
theorem pl_X11_isAbove : zPl yX11_isAbove 2 := ⟨by decide +kernel, by decide +kernel, by decide +kernel⟩
theorem pn_X11_isAbove : plainFor yX11_isAbove = true := plainFor_of_name (by decide +kernel)
theorem co_X11_isNearer : Cond.code yX11_isNearer cX11_isNearer 12 (some .boolean) ∈ zB := (zB_of 906 (by decide +kernel) rfl)
theorem pl_X11_isNearer : zPl yX11_isNearer 4 := ⟨by decide +kernel, by decide +kernel, by decide +kernel⟩
theorem pn_X11_isNearer : plainFor yX11_isNearer = true := plainFor_of_name (by decide +kernel)
theorem co_X11_floorOf : Cond.code yX11_floorOf cX11_floorOf 4 (some .long) ∈ zB := (zB_of 902 (by decide +kernel) rfl)
theorem pl_X11_floorOf : zPl yX11_floorOf 1 := ⟨by decide +kernel, by decide +kernel, by decide +kernel⟩
theorem pn_X11_floorOf : plainFor yX11_floorOf = true := plainFor_of_name (by decide +kernel)
theorem co_X11_seeks : Cond.code yX11_seeks cX11_seeks 6 (some .int) ∈ zB := (zB_of 898 (by decide +kernel) rfl)
theorem pl_X11_seeks : zPl yX11_seeks 1 := ⟨by decide +kernel, by decide +kernel, by decide +kernel⟩
theorem pn_X11_seeks : plainFor yX11_seeks = true := plainFor_of_name (by decide +kernel)
theorem co_X11_best : Cond.code yX11_best cX11_best 2 (some .int) ∈ zB := (zB_of 914 (by decide +kernel) rfl)
theorem pl_X11_best : zPl yX11_best 1 := ⟨by decide +kernel, by decide +kernel, by decide +kernel⟩
theorem pn_X11_best : plainFor yX11_best = true := plainFor_of_name (by decide +kernel)
theorem co_X11_nearest : Cond.code yX11_nearest cX11_nearest 3 (some .int) ∈ zB := (zB_of 893 (by decide +kernel) rfl)
theorem pl_X11_nearest : zPl yX11_nearest 2 := ⟨by decide +kernel, by decide +kernel, by decide +kernel⟩
theorem pn_X11_nearest : plainFor yX11_nearest = true := plainFor_of_name (by decide +kernel)
theorem co_X11_beside : Cond.code yX11_beside cX11_beside 9 (some .int) ∈ zB := (zB_of 919 (by decide +kernel) rfl)
theorem pl_X11_beside : zPl yX11_beside 3 := ⟨by decide +kernel, by decide +kernel, by decide +kernel⟩
theorem pn_X11_beside : plainFor yX11_beside = true := plainFor_of_name (by decide +kernel)
theorem co_X11_records : Cond.code yX11_records cX11_records 2 (some .int) ∈ zB := (zB_of 923 (by decide +kernel) rfl)
theorem pl_X11_records : zPl yX11_records 1 := ⟨by decide +kernel, by decide +kernel, by decide +kernel⟩
theorem pn_X11_records : plainFor yX11_records = true := plainFor_of_name (by decide +kernel)
theorem co_X11_solves : Cond.code yX11_solves cX11_solves 8 none ∈ zB := (zB_of 936 (by decide +kernel) rfl)
theorem pl_X11_solves : zPl yX11_solves 2 := ⟨by decide +kernel, by decide +kernel, by decide +kernel⟩
theorem pn_X11_solves : plainFor yX11_solves = true := plainFor_of_name (by decide +kernel)
theorem co_X11_isN : Cond.code yX11_isN cX11_isN 1 (some .boolean) ∈ zB := (zB_of 930 (by decide +kernel) rfl)
theorem pl_X11_isN : zPl yX11_isN 1 := ⟨by decide +kernel, by decide +kernel, by decide +kernel⟩
theorem pn_X11_isN : plainFor yX11_isN = true := plainFor_of_name (by decide +kernel)
theorem co_X11_solution : Cond.code yX11_solution cX11_solution 4 (some .int) ∈ zB := (zB_of 927 (by decide +kernel) rfl)
theorem pl_X11_solution : zPl yX11_solution 3 := ⟨by decide +kernel, by decide +kernel, by decide +kernel⟩
theorem pn_X11_solution : plainFor yX11_solution = true := plainFor_of_name (by decide +kernel)
theorem co_X11_solutions : Cond.code yX11_solutions cX11_solutions 2 (some .int) ∈ zB := (zB_of 942 (by decide +kernel) rfl)
theorem pl_X11_solutions : zPl yX11_solutions 1 := ⟨by decide +kernel, by decide +kernel, by decide +kernel⟩
theorem pn_X11_solutions : plainFor yX11_solutions = true := plainFor_of_name (by decide +kernel)
theorem co_X11_leastSolution : Cond.code yX11_leastSolution cX11_leastSolution 3 (some .long) ∈ zB := (zB_of 946 (by decide +kernel) rfl)
theorem pl_X11_leastSolution : zPl yX11_leastSolution 1 := ⟨by decide +kernel, by decide +kernel, by decide +kernel⟩
theorem pn_X11_leastSolution : plainFor yX11_leastSolution = true := plainFor_of_name (by decide +kernel)
theorem co_X11_isAt : Cond.code yX11_isAt cX11_isAt 3 (some .boolean) ∈ zB := (zB_of 962 (by decide +kernel) rfl)
theorem pl_X11_isAt : zPl yX11_isAt 2 := ⟨by decide +kernel, by decide +kernel, by decide +kernel⟩
theorem pn_X11_isAt : plainFor yX11_isAt = true := plainFor_of_name (by decide +kernel)
theorem co_X11_passes : Cond.code yX11_passes cX11_passes 3 (some .boolean) ∈ zB := (zB_of 958 (by decide +kernel) rfl)
theorem pl_X11_passes : zPl yX11_passes 1 := ⟨by decide +kernel, by decide +kernel, by decide +kernel⟩
theorem pn_X11_passes : plainFor yX11_passes = true := plainFor_of_name (by decide +kernel)
theorem co_X11_number : Cond.code yX11_number cX11_number 3 (some .boolean) ∈ zB := (zB_of 966 (by decide +kernel) rfl)
theorem pl_X11_number : zPl yX11_number 0 := ⟨by decide +kernel, by decide +kernel, by decide +kernel⟩
theorem pn_X11_number : plainFor yX11_number = true := plainFor_of_name (by decide +kernel)
theorem co_X11_later : Cond.code yX11_later cX11_later 2 (some .boolean) ∈ zB := (zB_of 970 (by decide +kernel) rfl)
theorem pl_X11_later : zPl yX11_later 0 := ⟨by decide +kernel, by decide +kernel, by decide +kernel⟩
theorem pn_X11_later : plainFor yX11_later = true := plainFor_of_name (by decide +kernel)
theorem co_X11_reads : Cond.code yX11_reads cX11_reads 3 (some .boolean) ∈ zB := (zB_of 954 (by decide +kernel) rfl)
theorem pl_X11_reads : zPl yX11_reads 0 := ⟨by decide +kernel, by decide +kernel, by decide +kernel⟩
theorem pn_X11_reads : plainFor yX11_reads = true := plainFor_of_name (by decide +kernel)
theorem co_X11_fault : Cond.code yX11_fault cX11_fault 2 (some .int) ∈ zB := (zB_of 950 (by decide +kernel) rfl)
theorem pl_X11_fault : zPl yX11_fault 1 := ⟨by decide +kernel, by decide +kernel, by decide +kernel⟩
theorem pn_X11_fault : plainFor yX11_fault = true := plainFor_of_name (by decide +kernel)
theorem co_X11_tells : Cond.code yX11_tells cX11_tells 3 (some .boolean) ∈ zB := (zB_of 983 (by decide +kernel) rfl)
theorem pl_X11_tells : zPl yX11_tells 0 := ⟨by decide +kernel, by decide +kernel, by decide +kernel⟩
theorem pn_X11_tells : plainFor yX11_tells = true := plainFor_of_name (by decide +kernel)
theorem co_X11_fits : Cond.code yX11_fits cX11_fits 1 (some .boolean) ∈ zB := (zB_of 987 (by decide +kernel) rfl)
theorem pl_X11_fits : zPl yX11_fits 0 := ⟨by decide +kernel, by decide +kernel, by decide +kernel⟩
theorem pn_X11_fits : plainFor yX11_fits = true := plainFor_of_name (by decide +kernel)
theorem co_X11_alike : Cond.code yX11_alike cX11_alike 2 (some .int) ∈ zB := (zB_of 979 (by decide +kernel) rfl)
theorem pl_X11_alike : zPl yX11_alike 0 := ⟨by decide +kernel, by decide +kernel, by decide +kernel⟩
theorem pn_X11_alike : plainFor yX11_alike = true := plainFor_of_name (by decide +kernel)
theorem co_X11_told : Cond.code yX11_told cX11_told 2 (some .long) ∈ zB := (zB_of 974 (by decide +kernel) rfl)
theorem pl_X11_told : zPl yX11_told 1 := ⟨by decide +kernel, by decide +kernel, by decide +kernel⟩
theorem pn_X11_told : plainFor yX11_told = true := plainFor_of_name (by decide +kernel)
theorem co_X11_upOf : Cond.code yX11_upOf cX11_upOf 2 (some .int) ∈ zB := (zB_of 1001 (by decide +kernel) rfl)
theorem pl_X11_upOf : zPl yX11_upOf 1 := ⟨by decide +kernel, by decide +kernel, by decide +kernel⟩
theorem pn_X11_upOf : plainFor yX11_upOf = true := plainFor_of_name (by decide +kernel)
theorem co_X11_lowOf : Cond.code yX11_lowOf cX11_lowOf 2 (some .int) ∈ zB := (zB_of 1005 (by decide +kernel) rfl)
theorem pl_X11_lowOf : zPl yX11_lowOf 1 := ⟨by decide +kernel, by decide +kernel, by decide +kernel⟩
theorem pn_X11_lowOf : plainFor yX11_lowOf = true := plainFor_of_name (by decide +kernel)
theorem co_X11_placeOf : Cond.code yX11_placeOf cX11_placeOf 4 (some .int) ∈ zB := (zB_of 1009 (by decide +kernel) rfl)
theorem pl_X11_placeOf : zPl yX11_placeOf 1 := ⟨by decide +kernel, by decide +kernel, by decide +kernel⟩
theorem pn_X11_placeOf : plainFor yX11_placeOf = true := plainFor_of_name (by decide +kernel)
theorem co_X11_at : Cond.code yX11_at cX11_at 4 (some .int) ∈ zB := (zB_of 1017 (by decide +kernel) rfl)
theorem pl_X11_at : zPl yX11_at 1 := ⟨by decide +kernel, by decide +kernel, by decide +kernel⟩
theorem pn_X11_at : plainFor yX11_at = true := plainFor_of_name (by decide +kernel)
theorem co_X11_isNoted : Cond.code yX11_isNoted cX11_isNoted 7 (some .boolean) ∈ zB := (zB_of 997 (by decide +kernel) rfl)
theorem pl_X11_isNoted : zPl yX11_isNoted 2 := ⟨by decide +kernel, by decide +kernel, by decide +kernel⟩
theorem pn_X11_isNoted : plainFor yX11_isNoted = true := plainFor_of_name (by decide +kernel)
theorem co_X11_note : Cond.code yX11_note cX11_note 1 (some .int) ∈ zB := (zB_of 993 (by decide +kernel) rfl)
theorem pl_X11_note : zPl yX11_note 0 := ⟨by decide +kernel, by decide +kernel, by decide +kernel⟩
theorem pn_X11_note : plainFor yX11_note = true := plainFor_of_name (by decide +kernel)
theorem co_X11_strike : Cond.code yX11_strike cX11_strike 4 (some .int) ∈ zB := (zB_of 1013 (by decide +kernel) rfl)
theorem pl_X11_strike : zPl yX11_strike 1 := ⟨by decide +kernel, by decide +kernel, by decide +kernel⟩
theorem pn_X11_strike : plainFor yX11_strike = true := plainFor_of_name (by decide +kernel)
theorem co_X11_strikeAll : Cond.code yX11_strikeAll cX11_strikeAll 2 (some .int) ∈ zB := (zB_of 1021 (by decide +kernel) rfl)
theorem pl_X11_strikeAll : zPl yX11_strikeAll 0 := ⟨by decide +kernel, by decide +kernel, by decide +kernel⟩
theorem pn_X11_strikeAll : plainFor yX11_strikeAll = true := plainFor_of_name (by decide +kernel)
theorem co_X11_isConvergent : Cond.code yX11_isConvergent cX11_isConvergent 6 (some .boolean) ∈ zB := (zB_of 1030 (by decide +kernel) rfl)
theorem pl_X11_isConvergent : zPl yX11_isConvergent 2 := ⟨by decide +kernel, by decide +kernel, by decide +kernel⟩
theorem pn_X11_isConvergent : plainFor yX11_isConvergent = true := plainFor_of_name (by decide +kernel)
theorem co_X11_noteOf : Cond.code yX11_noteOf cX11_noteOf 4 (some .int) ∈ zB := (zB_of 1025 (by decide +kernel) rfl)
theorem pl_X11_noteOf : zPl yX11_noteOf 2 := ⟨by decide +kernel, by decide +kernel, by decide +kernel⟩
theorem pn_X11_noteOf : plainFor yX11_noteOf = true := plainFor_of_name (by decide +kernel)
theorem co_X11_aboveOnes : Cond.code yX11_aboveOnes cX11_aboveOnes 3 (some .int) ∈ zB := (zB_of 1038 (by decide +kernel) rfl)
theorem pl_X11_aboveOnes : zPl yX11_aboveOnes 0 := ⟨by decide +kernel, by decide +kernel, by decide +kernel⟩
theorem pn_X11_aboveOnes : plainFor yX11_aboveOnes = true := plainFor_of_name (by decide +kernel)
theorem co_X11_count : Cond.code yX11_count cX11_count 2 (some .int) ∈ zB := (zB_of 1034 (by decide +kernel) rfl)
theorem pl_X11_count : zPl yX11_count 1 := ⟨by decide +kernel, by decide +kernel, by decide +kernel⟩
theorem pn_X11_count : plainFor yX11_count = true := plainFor_of_name (by decide +kernel)
theorem co_X11_undo : Cond.code yX11_undo cX11_undo 2 (some .int) ∈ zB := (zB_of 1042 (by decide +kernel) rfl)
theorem pl_X11_undo : zPl yX11_undo 0 := ⟨by decide +kernel, by decide +kernel, by decide +kernel⟩
theorem pn_X11_undo : plainFor yX11_undo = true := plainFor_of_name (by decide +kernel)
theorem co_X11_type : Cond.code yX11_type cX11_type 2 (some .int) ∈ zB := (zB_of 1046 (by decide +kernel) rfl)
theorem pl_X11_type : zPl yX11_type 1 := ⟨by decide +kernel, by decide +kernel, by decide +kernel⟩
theorem pn_X11_type : plainFor yX11_type = true := plainFor_of_name (by decide +kernel)
theorem co_X11_clearText : Cond.code yX11_clearText cX11_clearText 2 (some .int) ∈ zB := (zB_of 1052 (by decide +kernel) rfl)
theorem pl_X11_clearText : zPl yX11_clearText 0 := ⟨by decide +kernel, by decide +kernel, by decide +kernel⟩
theorem pn_X11_clearText : plainFor yX11_clearText = true := plainFor_of_name (by decide +kernel)
theorem co_J9_floorDiv_f86c9 : Cond.code yJ9_floorDiv_f86c9 cJ9_floorDiv_f86c9 6 (some .long) ∈ zB := (zB_of 354 (by decide +kernel) rfl)
theorem pl_J9_floorDiv_f86c9 : zPl yJ9_floorDiv_f86c9 2 := ⟨by decide +kernel, by decide +kernel, by decide +kernel⟩
theorem pn_J9_floorDiv_f86c9 : plainFor yJ9_floorDiv_f86c9 = true := by decide +kernel
theorem co_J9_abs_067f4 : Cond.code yJ9_abs_067f4 cJ9_abs_067f4 2 (some .long) ∈ zB := (zB_of 335 (by decide +kernel) rfl)
theorem pl_J9_abs_067f4 : zPl yJ9_abs_067f4 1 := ⟨by decide +kernel, by decide +kernel, by decide +kernel⟩
theorem pn_J9_abs_067f4 : plainFor yJ9_abs_067f4 = true := by decide +kernel
theorem co_J9_max_7cf53 : Cond.code yJ9_max_7cf53 cJ9_max_7cf53 2 (some .int) ∈ zB := (zB_of 491 (by decide +kernel) rfl)
theorem pl_J9_max_7cf53 : zPl yJ9_max_7cf53 2 := ⟨by decide +kernel, by decide +kernel, by decide +kernel⟩
theorem pn_J9_max_7cf53 : plainFor yJ9_max_7cf53 = true := by decide +kernel
theorem co_obj : Cond.code objectInit ⟨#[0xb1]⟩ 1 none ∈ zB := (zB_of 67 (by decide +kernel) rfl)
theorem in_obj : Cond.instanceMethod objectInit ∈ zB := (zB_of 66 (by decide +kernel) rfl)
theorem co_abs : Cond.code Lib.MathLoose.abs_long.x Lib.MathLoose.abs_long.code 2 (some .long) ∈ zB := (zB_of 335 (by decide +kernel) rfl)
theorem st_abs : Cond.static Lib.MathLoose.abs_long.x ∈ zB := (zB_of 334 (by decide +kernel) rfl)
theorem co_max : Cond.code Lib.Math.max.name Lib.Math.max.code 2 (some .int) ∈ zB := (zB_of 491 (by decide +kernel) rfl)
theorem st_max : Cond.static Lib.Math.max.name ∈ zB := (zB_of 490 (by decide +kernel) rfl)
theorem ac_int : Cond.arrayClass .int ∈ zB := (zB_of 116 (by decide +kernel) rfl)
theorem ac_long : Cond.arrayClass .long ∈ zB := (zB_of 171 (by decide +kernel) rfl)
theorem ac_char : Cond.arrayClass .char ∈ zB := (zB_of 322 (by decide +kernel) rfl)
theorem cl_L_7 : Cond.classLink RL 7 RX10 ∈ zB := (zB_of 60 (by decide +kernel) rfl)
theorem n_L_7 : zNW RL 7 10 [.null, .null, .null, .null, .null, .null, .null] 7 := ⟨RX10, TX10, tyX10, rfl, hu_X10, tyX10_ok, cl_L_7, (zB_of 61 (by decide +kernel) rfl), i_X10, fun j hj => by
  rcases (show j = 0 ∨ j = 1 ∨ j = 2 ∨ j = 3 ∨ j = 4 ∨ j = 5 ∨ j = 6 by omega) with rfl | rfl | rfl | rfl | rfl | rfl | rfl <;> rfl⟩
theorem cl_X10_7 : Cond.classLink RX10 7 RX6 ∈ zB := (zB_of 68 (by decide +kernel) rfl)
theorem n_X10_7 : zNW RX10 7 6 [.null, .null] 2 := ⟨RX6, TX6, tyX6, rfl, hu_X6, tyX6_ok, cl_X10_7, (zB_of 69 (by decide +kernel) rfl), i_X6, fun j hj => by
  rcases (show j = 0 ∨ j = 1 by omega) with rfl | rfl <;> rfl⟩
theorem cl_X6_7 : Cond.classLink RX6 7 RX8 ∈ zB := (zB_of 74 (by decide +kernel) rfl)
theorem n_X6_7 : zNW RX6 7 8 [.int 0, .int 0, .int 0] 3 := ⟨RX8, TX8, tyX8, rfl, hu_X8, tyX8_ok, cl_X6_7, (zB_of 75 (by decide +kernel) rfl), i_X8, fun j hj => by
  rcases (show j = 0 ∨ j = 1 ∨ j = 2 by omega) with rfl | rfl | rfl <;> rfl⟩
theorem f_X8_16 : zFL RX8 16 8 0 := ⟨RX8, TX8, 3, rfl, by decide, hu_X8, (zB_of 80 (by decide +kernel) rfl)⟩
theorem f_X6_23 : zFL RX6 23 8 0 := ⟨RX8, TX8, 3, rfl, by decide, hu_X8, (zB_of 81 (by decide +kernel) rfl)⟩
theorem f_X2_43 : zFL RX2 43 8 0 := ⟨RX8, TX8, 3, rfl, by decide, hu_X8, (zB_of 82 (by decide +kernel) rfl)⟩
theorem f_X10_95 : zFL RX10 95 8 0 := ⟨RX8, TX8, 3, rfl, by decide, hu_X8, (zB_of 83 (by decide +kernel) rfl)⟩
theorem f_X8_7 : zFL RX8 7 8 1 := ⟨RX8, TX8, 3, rfl, by decide, hu_X8, (zB_of 84 (by decide +kernel) rfl)⟩
theorem f_X6_27 : zFL RX6 27 8 1 := ⟨RX8, TX8, 3, rfl, by decide, hu_X8, (zB_of 85 (by decide +kernel) rfl)⟩
theorem f_X2_48 : zFL RX2 48 8 1 := ⟨RX8, TX8, 3, rfl, by decide, hu_X8, (zB_of 86 (by decide +kernel) rfl)⟩
theorem f_X10_99 : zFL RX10 99 8 1 := ⟨RX8, TX8, 3, rfl, by decide, hu_X8, (zB_of 87 (by decide +kernel) rfl)⟩
theorem f_X8_13 : zFL RX8 13 8 2 := ⟨RX8, TX8, 3, rfl, by decide, hu_X8, (zB_of 88 (by decide +kernel) rfl)⟩
theorem f_X6_30 : zFL RX6 30 8 2 := ⟨RX8, TX8, 3, rfl, by decide, hu_X8, (zB_of 89 (by decide +kernel) rfl)⟩
theorem f_X2_51 : zFL RX2 51 8 2 := ⟨RX8, TX8, 3, rfl, by decide, hu_X8, (zB_of 90 (by decide +kernel) rfl)⟩
theorem f_X10_102 : zFL RX10 102 8 2 := ⟨RX8, TX8, 3, rfl, by decide, hu_X8, (zB_of 91 (by decide +kernel) rfl)⟩
theorem cl_X6_16 : Cond.classLink RX6 16 RX0 ∈ zB := (zB_of 99 (by decide +kernel) rfl)
theorem n_X6_16 : zNW RX6 16 0 [.null, .null, .int 0] 3 := ⟨RX0, TX0, tyX0, rfl, hu_X0, tyX0_ok, cl_X6_16, (zB_of 100 (by decide +kernel) rfl), i_X0, fun j hj => by
  rcases (show j = 0 ∨ j = 1 ∨ j = 2 by omega) with rfl | rfl | rfl <;> rfl⟩
theorem f_X0_9 : zFL RX0 9 0 0 := ⟨RX0, TX0, 3, rfl, by decide, hu_X0, (zB_of 105 (by decide +kernel) rfl)⟩
theorem f_X0_15 : zFL RX0 15 0 1 := ⟨RX0, TX0, 3, rfl, by decide, hu_X0, (zB_of 106 (by decide +kernel) rfl)⟩
theorem f_X0_18 : zFL RX0 18 0 2 := ⟨RX0, TX0, 3, rfl, by decide, hu_X0, (zB_of 107 (by decide +kernel) rfl)⟩
theorem f_X10_209 : zFL RX10 209 0 2 := ⟨RX0, TX0, 3, rfl, by decide, hu_X0, (zB_of 108 (by decide +kernel) rfl)⟩
theorem f_X6_10 : zFL RX6 10 6 0 := ⟨RX6, TX6, 2, rfl, by decide, hu_X6, (zB_of 117 (by decide +kernel) rfl)⟩
theorem f_X10_58 : zFL RX10 58 6 0 := ⟨RX6, TX6, 2, rfl, by decide, hu_X6, (zB_of 118 (by decide +kernel) rfl)⟩
theorem f_X6_19 : zFL RX6 19 6 1 := ⟨RX6, TX6, 2, rfl, by decide, hu_X6, (zB_of 119 (by decide +kernel) rfl)⟩
theorem f_X10_86 : zFL RX10 86 6 1 := ⟨RX6, TX6, 2, rfl, by decide, hu_X6, (zB_of 120 (by decide +kernel) rfl)⟩
theorem cl_X10_16 : Cond.classLink RX10 16 RX3 ∈ zB := (zB_of 126 (by decide +kernel) rfl)
theorem n_X10_16 : zNW RX10 16 3 [.null, .int 0] 2 := ⟨RX3, TX3, tyX3, rfl, hu_X3, tyX3_ok, cl_X10_16, (zB_of 127 (by decide +kernel) rfl), i_X3, fun j hj => by
  rcases (show j = 0 ∨ j = 1 by omega) with rfl | rfl <;> rfl⟩
theorem cl_X3_9 : Cond.classLink RX3 9 RX6 ∈ zB := (zB_of 132 (by decide +kernel) rfl)
theorem n_X3_9 : zNW RX3 9 6 [.null, .null] 2 := ⟨RX6, TX6, tyX6, rfl, hu_X6, tyX6_ok, cl_X3_9, (zB_of 69 (by decide +kernel) rfl), i_X6, fun j hj => by
  rcases (show j = 0 ∨ j = 1 by omega) with rfl | rfl <;> rfl⟩
theorem f_X3_11 : zFL RX3 11 3 0 := ⟨RX3, TX3, 2, rfl, by decide, hu_X3, (zB_of 135 (by decide +kernel) rfl)⟩
theorem f_X3_18 : zFL RX3 18 3 1 := ⟨RX3, TX3, 2, rfl, by decide, hu_X3, (zB_of 136 (by decide +kernel) rfl)⟩
theorem f_X10_235 : zFL RX10 235 3 1 := ⟨RX3, TX3, 2, rfl, by decide, hu_X3, (zB_of 137 (by decide +kernel) rfl)⟩
theorem cl_X10_23 : Cond.classLink RX10 23 RX2 ∈ zB := (zB_of 143 (by decide +kernel) rfl)
theorem n_X10_23 : zNW RX10 23 2 [.null, .null, .null, .null, .null, .long 0, .long 0, .int 0, .int 0, .int 0] 10 := ⟨RX2, TX2, tyX2, rfl, hu_X2, tyX2_ok, cl_X10_23, (zB_of 144 (by decide +kernel) rfl), i_X2, fun j hj => by
  rcases (show j = 0 ∨ j = 1 ∨ j = 2 ∨ j = 3 ∨ j = 4 ∨ j = 5 ∨ j = 6 ∨ j = 7 ∨ j = 8 ∨ j = 9 by omega) with rfl | rfl | rfl | rfl | rfl | rfl | rfl | rfl | rfl | rfl <;> rfl⟩
theorem cl_X2_22 : Cond.classLink RX2 22 RX7 ∈ zB := (zB_of 149 (by decide +kernel) rfl)
theorem n_X2_22 : zNW RX2 22 7 [.long 0, .long 0, .long 0, .long 0] 4 := ⟨RX7, TX7, tyX7, rfl, hu_X7, tyX7_ok, cl_X2_22, (zB_of 150 (by decide +kernel) rfl), i_X7, fun j hj => by
  rcases (show j = 0 ∨ j = 1 ∨ j = 2 ∨ j = 3 by omega) with rfl | rfl | rfl | rfl <;> rfl⟩
theorem f_X7_13 : zFL RX7 13 7 0 := ⟨RX7, TX7, 4, rfl, by decide, hu_X7, (zB_of 155 (by decide +kernel) rfl)⟩
theorem f_X2_76 : zFL RX2 76 7 0 := ⟨RX7, TX7, 4, rfl, by decide, hu_X7, (zB_of 156 (by decide +kernel) rfl)⟩
theorem f_X7_19 : zFL RX7 19 7 1 := ⟨RX7, TX7, 4, rfl, by decide, hu_X7, (zB_of 157 (by decide +kernel) rfl)⟩
theorem f_X2_83 : zFL RX2 83 7 1 := ⟨RX7, TX7, 4, rfl, by decide, hu_X7, (zB_of 158 (by decide +kernel) rfl)⟩
theorem f_X5_72 : zFL RX5 72 7 1 := ⟨RX7, TX7, 4, rfl, by decide, hu_X7, (zB_of 159 (by decide +kernel) rfl)⟩
theorem f_X7_22 : zFL RX7 22 7 2 := ⟨RX7, TX7, 4, rfl, by decide, hu_X7, (zB_of 160 (by decide +kernel) rfl)⟩
theorem f_X7_28 : zFL RX7 28 7 3 := ⟨RX7, TX7, 4, rfl, by decide, hu_X7, (zB_of 161 (by decide +kernel) rfl)⟩
theorem cl_X2_29 : Cond.classLink RX2 29 RX1 ∈ zB := (zB_of 172 (by decide +kernel) rfl)
theorem n_X2_29 : zNW RX2 29 1 [.long 0, .long 0, .int 0, .long 0, .long 0] 5 := ⟨RX1, TX1, tyX1, rfl, hu_X1, tyX1_ok, cl_X2_29, (zB_of 173 (by decide +kernel) rfl), i_X1, fun j hj => by
  rcases (show j = 0 ∨ j = 1 ∨ j = 2 ∨ j = 3 ∨ j = 4 by omega) with rfl | rfl | rfl | rfl | rfl <;> rfl⟩
theorem f_X1_9 : zFL RX1 9 1 0 := ⟨RX1, TX1, 5, rfl, by decide, hu_X1, (zB_of 178 (by decide +kernel) rfl)⟩
theorem f_X2_106 : zFL RX2 106 1 0 := ⟨RX1, TX1, 5, rfl, by decide, hu_X1, (zB_of 179 (by decide +kernel) rfl)⟩
theorem f_X5_75 : zFL RX5 75 1 0 := ⟨RX1, TX1, 5, rfl, by decide, hu_X1, (zB_of 180 (by decide +kernel) rfl)⟩
theorem f_X10_199 : zFL RX10 199 1 0 := ⟨RX1, TX1, 5, rfl, by decide, hu_X1, (zB_of 181 (by decide +kernel) rfl)⟩
theorem f_X1_15 : zFL RX1 15 1 1 := ⟨RX1, TX1, 5, rfl, by decide, hu_X1, (zB_of 182 (by decide +kernel) rfl)⟩
theorem f_X2_109 : zFL RX2 109 1 1 := ⟨RX1, TX1, 5, rfl, by decide, hu_X1, (zB_of 183 (by decide +kernel) rfl)⟩
theorem f_X5_78 : zFL RX5 78 1 1 := ⟨RX1, TX1, 5, rfl, by decide, hu_X1, (zB_of 184 (by decide +kernel) rfl)⟩
theorem f_X10_202 : zFL RX10 202 1 1 := ⟨RX1, TX1, 5, rfl, by decide, hu_X1, (zB_of 185 (by decide +kernel) rfl)⟩
theorem f_X1_24 : zFL RX1 24 1 2 := ⟨RX1, TX1, 5, rfl, by decide, hu_X1, (zB_of 186 (by decide +kernel) rfl)⟩
theorem f_X2_102 : zFL RX2 102 1 2 := ⟨RX1, TX1, 5, rfl, by decide, hu_X1, (zB_of 187 (by decide +kernel) rfl)⟩
theorem f_X5_68 : zFL RX5 68 1 2 := ⟨RX1, TX1, 5, rfl, by decide, hu_X1, (zB_of 188 (by decide +kernel) rfl)⟩
theorem f_X10_268 : zFL RX10 268 1 2 := ⟨RX1, TX1, 5, rfl, by decide, hu_X1, (zB_of 189 (by decide +kernel) rfl)⟩
theorem f_X1_18 : zFL RX1 18 1 3 := ⟨RX1, TX1, 5, rfl, by decide, hu_X1, (zB_of 190 (by decide +kernel) rfl)⟩
theorem f_X1_21 : zFL RX1 21 1 4 := ⟨RX1, TX1, 5, rfl, by decide, hu_X1, (zB_of 191 (by decide +kernel) rfl)⟩
theorem f_X2_9 : zFL RX2 9 2 0 := ⟨RX2, TX2, 10, rfl, by decide, hu_X2, (zB_of 203 (by decide +kernel) rfl)⟩
theorem f_X2_15 : zFL RX2 15 2 1 := ⟨RX2, TX2, 10, rfl, by decide, hu_X2, (zB_of 204 (by decide +kernel) rfl)⟩
theorem f_X2_19 : zFL RX2 19 2 2 := ⟨RX2, TX2, 10, rfl, by decide, hu_X2, (zB_of 205 (by decide +kernel) rfl)⟩
theorem f_X2_25 : zFL RX2 25 2 3 := ⟨RX2, TX2, 10, rfl, by decide, hu_X2, (zB_of 206 (by decide +kernel) rfl)⟩
theorem f_X2_32 : zFL RX2 32 2 4 := ⟨RX2, TX2, 10, rfl, by decide, hu_X2, (zB_of 207 (by decide +kernel) rfl)⟩
theorem f_X2_80 : zFL RX2 80 2 5 := ⟨RX2, TX2, 10, rfl, by decide, hu_X2, (zB_of 208 (by decide +kernel) rfl)⟩
theorem f_X2_86 : zFL RX2 86 2 6 := ⟨RX2, TX2, 10, rfl, by decide, hu_X2, (zB_of 209 (by decide +kernel) rfl)⟩
theorem f_X2_36 : zFL RX2 36 2 7 := ⟨RX2, TX2, 10, rfl, by decide, hu_X2, (zB_of 210 (by decide +kernel) rfl)⟩
theorem f_X10_114 : zFL RX10 114 2 7 := ⟨RX2, TX2, 10, rfl, by decide, hu_X2, (zB_of 211 (by decide +kernel) rfl)⟩
theorem f_X2_40 : zFL RX2 40 2 8 := ⟨RX2, TX2, 10, rfl, by decide, hu_X2, (zB_of 212 (by decide +kernel) rfl)⟩
theorem f_X10_117 : zFL RX10 117 2 8 := ⟨RX2, TX2, 10, rfl, by decide, hu_X2, (zB_of 213 (by decide +kernel) rfl)⟩
theorem f_X2_89 : zFL RX2 89 2 9 := ⟨RX2, TX2, 10, rfl, by decide, hu_X2, (zB_of 214 (by decide +kernel) rfl)⟩
theorem f_X10_136 : zFL RX10 136 2 9 := ⟨RX2, TX2, 10, rfl, by decide, hu_X2, (zB_of 215 (by decide +kernel) rfl)⟩
theorem cl_X10_30 : Cond.classLink RX10 30 RX4 ∈ zB := (zB_of 237 (by decide +kernel) rfl)
theorem n_X10_30 : zNW RX10 30 4 [.long 0, .long 0, .long 0, .long 0, .int 0] 5 := ⟨RX4, TX4, tyX4, rfl, hu_X4, tyX4_ok, cl_X10_30, (zB_of 238 (by decide +kernel) rfl), i_X4, fun j hj => by
  rcases (show j = 0 ∨ j = 1 ∨ j = 2 ∨ j = 3 ∨ j = 4 by omega) with rfl | rfl | rfl | rfl | rfl <;> rfl⟩
theorem f_X4_7 : zFL RX4 7 4 0 := ⟨RX4, TX4, 5, rfl, by decide, hu_X4, (zB_of 243 (by decide +kernel) rfl)⟩
theorem f_X10_275 : zFL RX10 275 4 0 := ⟨RX4, TX4, 5, rfl, by decide, hu_X4, (zB_of 244 (by decide +kernel) rfl)⟩
theorem f_X4_13 : zFL RX4 13 4 1 := ⟨RX4, TX4, 5, rfl, by decide, hu_X4, (zB_of 245 (by decide +kernel) rfl)⟩
theorem f_X10_281 : zFL RX10 281 4 1 := ⟨RX4, TX4, 5, rfl, by decide, hu_X4, (zB_of 246 (by decide +kernel) rfl)⟩
theorem f_X4_16 : zFL RX4 16 4 2 := ⟨RX4, TX4, 5, rfl, by decide, hu_X4, (zB_of 247 (by decide +kernel) rfl)⟩
theorem f_X10_272 : zFL RX10 272 4 2 := ⟨RX4, TX4, 5, rfl, by decide, hu_X4, (zB_of 248 (by decide +kernel) rfl)⟩
theorem f_X4_19 : zFL RX4 19 4 3 := ⟨RX4, TX4, 5, rfl, by decide, hu_X4, (zB_of 249 (by decide +kernel) rfl)⟩
theorem f_X10_278 : zFL RX10 278 4 3 := ⟨RX4, TX4, 5, rfl, by decide, hu_X4, (zB_of 250 (by decide +kernel) rfl)⟩
theorem f_X4_22 : zFL RX4 22 4 4 := ⟨RX4, TX4, 5, rfl, by decide, hu_X4, (zB_of 251 (by decide +kernel) rfl)⟩
theorem f_X10_162 : zFL RX10 162 4 4 := ⟨RX4, TX4, 5, rfl, by decide, hu_X4, (zB_of 252 (by decide +kernel) rfl)⟩
theorem cl_X10_37 : Cond.classLink RX10 37 RX5 ∈ zB := (zB_of 264 (by decide +kernel) rfl)
theorem n_X10_37 : zNW RX10 37 5 [.null, .null, .int 0, .long 0, .long 0] 5 := ⟨RX5, TX5, tyX5, rfl, hu_X5, tyX5_ok, cl_X10_37, (zB_of 265 (by decide +kernel) rfl), i_X5, fun j hj => by
  rcases (show j = 0 ∨ j = 1 ∨ j = 2 ∨ j = 3 ∨ j = 4 by omega) with rfl | rfl | rfl | rfl | rfl <;> rfl⟩
theorem cl_X5_9 : Cond.classLink RX5 9 RX7 ∈ zB := (zB_of 270 (by decide +kernel) rfl)
theorem n_X5_9 : zNW RX5 9 7 [.long 0, .long 0, .long 0, .long 0] 4 := ⟨RX7, TX7, tyX7, rfl, hu_X7, tyX7_ok, cl_X5_9, (zB_of 150 (by decide +kernel) rfl), i_X7, fun j hj => by
  rcases (show j = 0 ∨ j = 1 ∨ j = 2 ∨ j = 3 by omega) with rfl | rfl | rfl | rfl <;> rfl⟩
theorem cl_X5_18 : Cond.classLink RX5 18 RX1 ∈ zB := (zB_of 272 (by decide +kernel) rfl)
theorem n_X5_18 : zNW RX5 18 1 [.long 0, .long 0, .int 0, .long 0, .long 0] 5 := ⟨RX1, TX1, tyX1, rfl, hu_X1, tyX1_ok, cl_X5_18, (zB_of 173 (by decide +kernel) rfl), i_X1, fun j hj => by
  rcases (show j = 0 ∨ j = 1 ∨ j = 2 ∨ j = 3 ∨ j = 4 by omega) with rfl | rfl | rfl | rfl | rfl <;> rfl⟩
theorem f_X5_12 : zFL RX5 12 5 0 := ⟨RX5, TX5, 5, rfl, by decide, hu_X5, (zB_of 274 (by decide +kernel) rfl)⟩
theorem f_X5_21 : zFL RX5 21 5 1 := ⟨RX5, TX5, 5, rfl, by decide, hu_X5, (zB_of 275 (by decide +kernel) rfl)⟩
theorem f_X5_29 : zFL RX5 29 5 2 := ⟨RX5, TX5, 5, rfl, by decide, hu_X5, (zB_of 276 (by decide +kernel) rfl)⟩
theorem f_X5_37 : zFL RX5 37 5 3 := ⟨RX5, TX5, 5, rfl, by decide, hu_X5, (zB_of 277 (by decide +kernel) rfl)⟩
theorem f_X10_171 : zFL RX10 171 5 3 := ⟨RX5, TX5, 5, rfl, by decide, hu_X5, (zB_of 278 (by decide +kernel) rfl)⟩
theorem f_X5_41 : zFL RX5 41 5 4 := ⟨RX5, TX5, 5, rfl, by decide, hu_X5, (zB_of 279 (by decide +kernel) rfl)⟩
theorem f_X10_175 : zFL RX10 175 5 4 := ⟨RX5, TX5, 5, rfl, by decide, hu_X5, (zB_of 280 (by decide +kernel) rfl)⟩
theorem cl_X10_44 : Cond.classLink RX10 44 RX9 ∈ zB := (zB_of 292 (by decide +kernel) rfl)
theorem n_X10_44 : zNW RX10 44 9 [.null, .null, .int 0, .int 0, .int 0, .int 0] 6 := ⟨RX9, TX9, tyX9, rfl, hu_X9, tyX9_ok, cl_X10_44, (zB_of 293 (by decide +kernel) rfl), i_X9, fun j hj => by
  rcases (show j = 0 ∨ j = 1 ∨ j = 2 ∨ j = 3 ∨ j = 4 ∨ j = 5 by omega) with rfl | rfl | rfl | rfl | rfl | rfl <;> rfl⟩
theorem f_X9_9 : zFL RX9 9 9 0 := ⟨RX9, TX9, 6, rfl, by decide, hu_X9, (zB_of 298 (by decide +kernel) rfl)⟩
theorem f_X9_15 : zFL RX9 15 9 1 := ⟨RX9, TX9, 6, rfl, by decide, hu_X9, (zB_of 299 (by decide +kernel) rfl)⟩
theorem f_X9_19 : zFL RX9 19 9 2 := ⟨RX9, TX9, 6, rfl, by decide, hu_X9, (zB_of 300 (by decide +kernel) rfl)⟩
theorem f_X10_236 : zFL RX10 236 9 2 := ⟨RX9, TX9, 6, rfl, by decide, hu_X9, (zB_of 301 (by decide +kernel) rfl)⟩
theorem f_X9_30 : zFL RX9 30 9 3 := ⟨RX9, TX9, 6, rfl, by decide, hu_X9, (zB_of 302 (by decide +kernel) rfl)⟩
theorem f_X2_129 : zFL RX2 129 9 3 := ⟨RX9, TX9, 6, rfl, by decide, hu_X9, (zB_of 303 (by decide +kernel) rfl)⟩
theorem f_X10_254 : zFL RX10 254 9 3 := ⟨RX9, TX9, 6, rfl, by decide, hu_X9, (zB_of 304 (by decide +kernel) rfl)⟩
theorem f_X9_33 : zFL RX9 33 9 4 := ⟨RX9, TX9, 6, rfl, by decide, hu_X9, (zB_of 305 (by decide +kernel) rfl)⟩
theorem f_X10_246 : zFL RX10 246 9 4 := ⟨RX9, TX9, 6, rfl, by decide, hu_X9, (zB_of 306 (by decide +kernel) rfl)⟩
theorem f_X9_27 : zFL RX9 27 9 5 := ⟨RX9, TX9, 6, rfl, by decide, hu_X9, (zB_of 307 (by decide +kernel) rfl)⟩
theorem f_X10_249 : zFL RX10 249 9 5 := ⟨RX9, TX9, 6, rfl, by decide, hu_X9, (zB_of 308 (by decide +kernel) rfl)⟩
theorem cl_X10_51 : Cond.classLink RX10 51 RX1 ∈ zB := (zB_of 323 (by decide +kernel) rfl)
theorem n_X10_51 : zNW RX10 51 1 [.long 0, .long 0, .int 0, .long 0, .long 0] 5 := ⟨RX1, TX1, tyX1, rfl, hu_X1, tyX1_ok, cl_X10_51, (zB_of 173 (by decide +kernel) rfl), i_X1, fun j hj => by
  rcases (show j = 0 ∨ j = 1 ∨ j = 2 ∨ j = 3 ∨ j = 4 by omega) with rfl | rfl | rfl | rfl | rfl <;> rfl⟩
theorem k_X7_41 : Cond.constantLong RX7 41 (zl (32768)) ∈ zB := (zB_of 339 (by decide +kernel) rfl)
theorem k_X7_35 : Cond.constantLong RX7 35 (zl (-1)) ∈ zB := (zB_of 355 (by decide +kernel) rfl)
theorem k_X1_38 : Cond.constantLong RX1 38 (zl (9000000000000000)) ∈ zB := (zB_of 381 (by decide +kernel) rfl)
theorem f_X10_10 : zFL RX10 10 10 0 := ⟨RX10, TX10, 7, rfl, by decide, hu_X10, (zB_of 382 (by decide +kernel) rfl)⟩
theorem f_X10_19 : zFL RX10 19 10 1 := ⟨RX10, TX10, 7, rfl, by decide, hu_X10, (zB_of 383 (by decide +kernel) rfl)⟩
theorem f_X10_26 : zFL RX10 26 10 2 := ⟨RX10, TX10, 7, rfl, by decide, hu_X10, (zB_of 384 (by decide +kernel) rfl)⟩
theorem f_X10_33 : zFL RX10 33 10 3 := ⟨RX10, TX10, 7, rfl, by decide, hu_X10, (zB_of 385 (by decide +kernel) rfl)⟩
theorem f_X10_40 : zFL RX10 40 10 4 := ⟨RX10, TX10, 7, rfl, by decide, hu_X10, (zB_of 386 (by decide +kernel) rfl)⟩
theorem f_X10_47 : zFL RX10 47 10 5 := ⟨RX10, TX10, 7, rfl, by decide, hu_X10, (zB_of 387 (by decide +kernel) rfl)⟩
theorem f_X10_54 : zFL RX10 54 10 6 := ⟨RX10, TX10, 7, rfl, by decide, hu_X10, (zB_of 388 (by decide +kernel) rfl)⟩
theorem k_X10_70 : Cond.constant RX10 70 (zi (-1000001)) ∈ zB := (zB_of 411 (by decide +kernel) rfl)
theorem k_X10_75 : Cond.constant RX10 75 (zi (-1000002)) ∈ zB := (zB_of 416 (by decide +kernel) rfl)
theorem k_X8_23 : Cond.constantLong RX8 23 (zl (2)) ∈ zB := (zB_of 466 (by decide +kernel) rfl)
theorem k_X10_113 : Cond.constant RX10 113 (zi (-1000003)) ∈ zB := (zB_of 484 (by decide +kernel) rfl)
theorem k_X10_134 : Cond.constantLong RX10 134 (zl (-1000001)) ∈ zB := (zB_of 511 (by decide +kernel) rfl)
theorem k_X10_139 : Cond.constantLong RX10 139 (zl (-1000003)) ∈ zB := (zB_of 512 (by decide +kernel) rfl)
theorem k_X10_145 : Cond.constantLong RX10 145 (zl (9000000000000000)) ∈ zB := (zB_of 517 (by decide +kernel) rfl)
theorem k_X10_224 : Cond.constant RX10 224 (zi (1000000)) ∈ zB := (zB_of 548 (by decide +kernel) rfl)
theorem k_X5_44 : Cond.constantLong RX5 44 (zl (5000)) ∈ zB := (zB_of 569 (by decide +kernel) rfl)
theorem k_X5_50 : Cond.constantLong RX5 50 (zl (1000000)) ∈ zB := (zB_of 574 (by decide +kernel) rfl)
theorem k_X10_170 : Cond.constant RX10 170 (zi (-1000004)) ∈ zB := (zB_of 575 (by decide +kernel) rfl)
theorem k_X10_295 : Cond.constantLong RX10 295 (zl (30000)) ∈ zB := (zB_of 644 (by decide +kernel) rfl)
theorem k_X10_297 : Cond.constantLong RX10 297 (zl (200)) ∈ zB := (zB_of 645 (by decide +kernel) rfl)
theorem k_X10_252 : Cond.constantLong RX10 252 (zl (-1000002)) ∈ zB := (zB_of 713 (by decide +kernel) rfl)
theorem cl_L_10 : Cond.classLink RL 10 RX11 ∈ zB := (zB_of 727 (by decide +kernel) rfl)
theorem n_L_10 : zNW RL 10 11 [.null, .null, .int 0, .null, .int 0, .null, .null, .null, .int 0, .long 0, .long 0, .long 0, .long 0, .long 0, .int 0, .int 0, .int 0, .int 0, .int 0, .int 0, .int 0, .null] 22 := ⟨RX11, TX11, tyX11, rfl, hu_X11, tyX11_ok, cl_L_10, (zB_of 728 (by decide +kernel) rfl), i_X11, fun j hj => by
  rcases (show j = 0 ∨ j = 1 ∨ j = 2 ∨ j = 3 ∨ j = 4 ∨ j = 5 ∨ j = 6 ∨ j = 7 ∨ j = 8 ∨ j = 9 ∨ j = 10 ∨ j = 11 ∨ j = 12 ∨ j = 13 ∨ j = 14 ∨ j = 15 ∨ j = 16 ∨ j = 17 ∨ j = 18 ∨ j = 19 ∨ j = 20 ∨ j = 21 by omega) with rfl | rfl | rfl | rfl | rfl | rfl | rfl | rfl | rfl | rfl | rfl | rfl | rfl | rfl | rfl | rfl | rfl | rfl | rfl | rfl | rfl | rfl <;> rfl⟩
theorem f_X11_7 : zFL RX11 7 11 0 := ⟨RX11, TX11, 22, rfl, by decide, hu_X11, (zB_of 733 (by decide +kernel) rfl)⟩
theorem f_X11_13 : zFL RX11 13 11 1 := ⟨RX11, TX11, 22, rfl, by decide, hu_X11, (zB_of 734 (by decide +kernel) rfl)⟩
theorem f_X11_32 : zFL RX11 32 11 2 := ⟨RX11, TX11, 22, rfl, by decide, hu_X11, (zB_of 735 (by decide +kernel) rfl)⟩
theorem f_X11_16 : zFL RX11 16 11 3 := ⟨RX11, TX11, 22, rfl, by decide, hu_X11, (zB_of 736 (by decide +kernel) rfl)⟩
theorem f_X11_180 : zFL RX11 180 11 4 := ⟨RX11, TX11, 22, rfl, by decide, hu_X11, (zB_of 737 (by decide +kernel) rfl)⟩
theorem f_X11_19 : zFL RX11 19 11 5 := ⟨RX11, TX11, 22, rfl, by decide, hu_X11, (zB_of 738 (by decide +kernel) rfl)⟩
theorem f_X11_22 : zFL RX11 22 11 6 := ⟨RX11, TX11, 22, rfl, by decide, hu_X11, (zB_of 739 (by decide +kernel) rfl)⟩
theorem f_X11_26 : zFL RX11 26 11 7 := ⟨RX11, TX11, 22, rfl, by decide, hu_X11, (zB_of 740 (by decide +kernel) rfl)⟩
theorem f_X11_72 : zFL RX11 72 11 8 := ⟨RX11, TX11, 22, rfl, by decide, hu_X11, (zB_of 741 (by decide +kernel) rfl)⟩
theorem f_X11_93 : zFL RX11 93 11 9 := ⟨RX11, TX11, 22, rfl, by decide, hu_X11, (zB_of 742 (by decide +kernel) rfl)⟩
theorem f_X11_97 : zFL RX11 97 11 10 := ⟨RX11, TX11, 22, rfl, by decide, hu_X11, (zB_of 743 (by decide +kernel) rfl)⟩
theorem f_X11_100 : zFL RX11 100 11 11 := ⟨RX11, TX11, 22, rfl, by decide, hu_X11, (zB_of 744 (by decide +kernel) rfl)⟩
theorem f_X11_103 : zFL RX11 103 11 12 := ⟨RX11, TX11, 22, rfl, by decide, hu_X11, (zB_of 745 (by decide +kernel) rfl)⟩
theorem f_X11_139 : zFL RX11 139 11 13 := ⟨RX11, TX11, 22, rfl, by decide, hu_X11, (zB_of 746 (by decide +kernel) rfl)⟩
theorem f_X11_142 : zFL RX11 142 11 14 := ⟨RX11, TX11, 22, rfl, by decide, hu_X11, (zB_of 747 (by decide +kernel) rfl)⟩
theorem f_X11_154 : zFL RX11 154 11 15 := ⟨RX11, TX11, 22, rfl, by decide, hu_X11, (zB_of 748 (by decide +kernel) rfl)⟩
theorem f_X11_159 : zFL RX11 159 11 16 := ⟨RX11, TX11, 22, rfl, by decide, hu_X11, (zB_of 749 (by decide +kernel) rfl)⟩
theorem f_X11_162 : zFL RX11 162 11 17 := ⟨RX11, TX11, 22, rfl, by decide, hu_X11, (zB_of 750 (by decide +kernel) rfl)⟩
theorem f_X11_177 : zFL RX11 177 11 18 := ⟨RX11, TX11, 22, rfl, by decide, hu_X11, (zB_of 751 (by decide +kernel) rfl)⟩
theorem f_X11_194 : zFL RX11 194 11 19 := ⟨RX11, TX11, 22, rfl, by decide, hu_X11, (zB_of 752 (by decide +kernel) rfl)⟩
theorem f_X11_187 : zFL RX11 187 11 20 := ⟨RX11, TX11, 22, rfl, by decide, hu_X11, (zB_of 753 (by decide +kernel) rfl)⟩
theorem f_X11_29 : zFL RX11 29 11 21 := ⟨RX11, TX11, 22, rfl, by decide, hu_X11, (zB_of 754 (by decide +kernel) rfl)⟩
theorem k_X11_40 : Cond.constantLong RX11 40 (zl (-99)) ∈ zB := (zB_of 804 (by decide +kernel) rfl)
theorem k_X11_42 : Cond.constantLong RX11 42 (zl (99)) ∈ zB := (zB_of 805 (by decide +kernel) rfl)
theorem k_X11_38 : Cond.constantLong RX11 38 (zl (2)) ∈ zB := (zB_of 809 (by decide +kernel) rfl)
theorem k_X11_48 : Cond.constantLong RX11 48 (zl (999)) ∈ zB := (zB_of 810 (by decide +kernel) rfl)
theorem k_X11_50 : Cond.constant RX11 50 (zi (-1000001)) ∈ zB := (zB_of 811 (by decide +kernel) rfl)
theorem k_X11_36 : Cond.constantLong RX11 36 (zl (4000000)) ∈ zB := (zB_of 815 (by decide +kernel) rfl)
theorem k_X11_55 : Cond.constant RX11 55 (zi (-1000002)) ∈ zB := (zB_of 816 (by decide +kernel) rfl)
theorem k_X11_67 : Cond.constantLong RX11 67 (zl (399)) ∈ zB := (zB_of 829 (by decide +kernel) rfl)
theorem k_X11_75 : Cond.constantLong RX11 75 (zl (4)) ∈ zB := (zB_of 845 (by decide +kernel) rfl)
theorem k_X11_81 : Cond.constant RX11 81 (zi (-1000003)) ∈ zB := (zB_of 850 (by decide +kernel) rfl)
theorem k_X11_120 : Cond.constantLong RX11 120 (zl (-1000001)) ∈ zB := (zB_of 867 (by decide +kernel) rfl)
theorem k_X11_109 : Cond.constantLong RX11 109 (zl (36000000000000000)) ∈ zB := (zB_of 883 (by decide +kernel) rfl)
theorem k_X11_111 : Cond.constantLong RX11 111 (zl (9000000000000000)) ∈ zB := (zB_of 884 (by decide +kernel) rfl)
theorem k_X11_125 : Cond.constantLong RX11 125 (zl (-1000003)) ∈ zB := (zB_of 885 (by decide +kernel) rfl)
theorem k_X11_146 : Cond.constantLong RX11 146 (zl (200)) ∈ zB := (zB_of 894 (by decide +kernel) rfl)
theorem k_X11_145 : Cond.constant RX11 145 (zi (1000000)) ∈ zB := (zB_of 915 (by decide +kernel) rfl)
theorem k_X11_165 : Cond.constantLong RX11 165 (zl (-60)) ∈ zB := (zB_of 931 (by decide +kernel) rfl)
theorem k_X11_167 : Cond.constantLong RX11 167 (zl (60)) ∈ zB := (zB_of 932 (by decide +kernel) rfl)
theorem k_X11_157 : Cond.constantLong RX11 157 (zl (-1)) ∈ zB := (zB_of 937 (by decide +kernel) rfl)
theorem k_X11_176 : Cond.constant RX11 176 (zi (-1000004)) ∈ zB := (zB_of 938 (by decide +kernel) rfl)
theorem k_X11_210 : Cond.constantLong RX11 210 (zl (-1000002)) ∈ zB := (zB_of 975 (by decide +kernel) rfl)
theorem k_X11_206 : Cond.constantLong RX11 206 (zl (-30000)) ∈ zB := (zB_of 988 (by decide +kernel) rfl)
theorem k_X11_208 : Cond.constantLong RX11 208 (zl (30000)) ∈ zB := (zB_of 989 (by decide +kernel) rfl)
theorem k_X11_236 : Cond.constantLong RX11 236 (zl (3)) ∈ zB := (zB_of 1026 (by decide +kernel) rfl)
theorem k_X11_244 : Cond.constantLong RX11 244 (zl (32)) ∈ zB := (zB_of 1047 (by decide +kernel) rfl)
theorem k_X11_246 : Cond.constantLong RX11 246 (zl (126)) ∈ zB := (zB_of 1048 (by decide +kernel) rfl)
theorem m_L_9 : zLI RL 9 yX10_init cX10_init 1 0 := ⟨(zB_of 62 (by decide +kernel) rfl), (zB_of 63 (by decide +kernel) rfl), i_X10, co_X10_init, pl_X10_init, rfl⟩
theorem m_X10_1 : Cond.methodLink RX10 1 objectInit ∈ zB := (zB_of 65 (by decide +kernel) rfl)
theorem m_X10_9 : zLN RX10 9 yX6_init cX6_init 1 0 := ⟨⟨"SurdFractions", zNest_of 70 (by decide +kernel) rfl⟩, (zB_of 71 (by decide +kernel) rfl), i_X6, co_X6_init, pl_X6_init, rfl⟩
theorem m_X6_1 : Cond.methodLink RX6 1 objectInit ∈ zB := (zB_of 73 (by decide +kernel) rfl)
theorem m_X6_9 : zLN RX6 9 yX8_init cX8_init 1 0 := ⟨⟨"SurdFractions", zNest_of 76 (by decide +kernel) rfl⟩, (zB_of 77 (by decide +kernel) rfl), i_X8, co_X8_init, pl_X8_init, rfl⟩
theorem m_X8_1 : Cond.methodLink RX8 1 objectInit ∈ zB := (zB_of 79 (by decide +kernel) rfl)
theorem m_X6_18 : zLN RX6 18 yX0_init cX0_init 1 0 := ⟨⟨"SurdFractions", zNest_of 101 (by decide +kernel) rfl⟩, (zB_of 102 (by decide +kernel) rfl), i_X0, co_X0_init, pl_X0_init, rfl⟩
theorem m_X0_3 : Cond.methodLink RX0 3 objectInit ∈ zB := (zB_of 104 (by decide +kernel) rfl)
theorem m_X10_18 : zLI RX10 18 yX3_init cX3_init 2 0 := ⟨(zB_of 128 (by decide +kernel) rfl), (zB_of 129 (by decide +kernel) rfl), i_X3, co_X3_init, pl_X3_init, rfl⟩
theorem m_X3_3 : Cond.methodLink RX3 3 objectInit ∈ zB := (zB_of 131 (by decide +kernel) rfl)
theorem m_X3_17 : zLN RX3 17 yX6_init cX6_init 1 0 := ⟨⟨"SurdFractions", zNest_of 134 (by decide +kernel) rfl⟩, (zB_of 71 (by decide +kernel) rfl), i_X6, co_X6_init, pl_X6_init, rfl⟩
theorem m_X10_25 : zLN RX10 25 yX2_init cX2_init 1 0 := ⟨⟨"SurdFractions", zNest_of 145 (by decide +kernel) rfl⟩, (zB_of 146 (by decide +kernel) rfl), i_X2, co_X2_init, pl_X2_init, rfl⟩
theorem m_X2_3 : Cond.methodLink RX2 3 objectInit ∈ zB := (zB_of 148 (by decide +kernel) rfl)
theorem m_X2_24 : zLN RX2 24 yX7_init cX7_init 1 0 := ⟨⟨"SurdFractions", zNest_of 151 (by decide +kernel) rfl⟩, (zB_of 152 (by decide +kernel) rfl), i_X7, co_X7_init, pl_X7_init, rfl⟩
theorem m_X7_1 : Cond.methodLink RX7 1 objectInit ∈ zB := (zB_of 154 (by decide +kernel) rfl)
theorem m_X2_31 : zLN RX2 31 yX1_init cX1_init 1 0 := ⟨⟨"SurdFractions", zNest_of 174 (by decide +kernel) rfl⟩, (zB_of 175 (by decide +kernel) rfl), i_X1, co_X1_init, pl_X1_init, rfl⟩
theorem m_X1_3 : Cond.methodLink RX1 3 objectInit ∈ zB := (zB_of 177 (by decide +kernel) rfl)
theorem m_X10_32 : zLN RX10 32 yX4_init cX4_init 1 0 := ⟨⟨"SurdFractions", zNest_of 239 (by decide +kernel) rfl⟩, (zB_of 240 (by decide +kernel) rfl), i_X4, co_X4_init, pl_X4_init, rfl⟩
theorem m_X4_1 : Cond.methodLink RX4 1 objectInit ∈ zB := (zB_of 242 (by decide +kernel) rfl)
theorem m_X10_39 : zLN RX10 39 yX5_init cX5_init 1 0 := ⟨⟨"SurdFractions", zNest_of 266 (by decide +kernel) rfl⟩, (zB_of 267 (by decide +kernel) rfl), i_X5, co_X5_init, pl_X5_init, rfl⟩
theorem m_X5_3 : Cond.methodLink RX5 3 objectInit ∈ zB := (zB_of 269 (by decide +kernel) rfl)
theorem m_X5_11 : zLN RX5 11 yX7_init cX7_init 1 0 := ⟨⟨"SurdFractions", zNest_of 271 (by decide +kernel) rfl⟩, (zB_of 152 (by decide +kernel) rfl), i_X7, co_X7_init, pl_X7_init, rfl⟩
theorem m_X5_20 : zLN RX5 20 yX1_init cX1_init 1 0 := ⟨⟨"SurdFractions", zNest_of 273 (by decide +kernel) rfl⟩, (zB_of 175 (by decide +kernel) rfl), i_X1, co_X1_init, pl_X1_init, rfl⟩
theorem m_X10_46 : zLN RX10 46 yX9_init cX9_init 1 0 := ⟨⟨"SurdFractions", zNest_of 294 (by decide +kernel) rfl⟩, (zB_of 295 (by decide +kernel) rfl), i_X9, co_X9_init, pl_X9_init, rfl⟩
theorem m_X9_3 : Cond.methodLink RX9 3 objectInit ∈ zB := (zB_of 297 (by decide +kernel) rfl)
theorem m_X10_53 : zLN RX10 53 yX1_init cX1_init 1 0 := ⟨⟨"SurdFractions", zNest_of 324 (by decide +kernel) rfl⟩, (zB_of 175 (by decide +kernel) rfl), i_X1, co_X1_init, pl_X1_init, rfl⟩
theorem m_X10_62 : zLV RX10 62 yX2_unfold cX2_unfold 3 none 1 := ⟨(zB_of 325 (by decide +kernel) rfl), (zB_of 326 (by decide +kernel) rfl), (zB_of 327 (by decide +kernel) rfl), i_X2, co_X2_unfold, pl_X2_unfold⟩
theorem m_X2_54 : zLV RX2 54 yX7_begin cX7_begin 9 none 3 := ⟨(zB_of 329 (by decide +kernel) rfl), (zB_of 330 (by decide +kernel) rfl), (zB_of 331 (by decide +kernel) rfl), i_X7, co_X7_begin, pl_X7_begin⟩
theorem m_X7_7 : Cond.methodLink RX7 7 Lib.MathLoose.abs_long.x ∈ zB := (zB_of 333 (by decide +kernel) rfl)
theorem m_X7_25 : zLS RX7 25 yX7_rootOf cX7_rootOf 6 (some .long) 1 := ⟨(zB_of 336 (by decide +kernel) rfl), (zB_of 337 (by decide +kernel) rfl), i_X7, co_X7_rootOf, pl_X7_rootOf⟩
theorem m_X2_58 : zLV RX2 58 yX2_lookForPeriod cX2_lookForPeriod 2 none 1 := ⟨(zB_of 340 (by decide +kernel) rfl), (zB_of 342 (by decide +kernel) rfl), (zB_of 0 (by decide +kernel) rfl), i_X2, co_X2_lookForPeriod, pl_X2_lookForPeriod⟩
theorem m_X2_72 : zLV RX2 72 yX7_isReduced cX7_isReduced 1 (some .boolean) 0 := ⟨(zB_of 344 (by decide +kernel) rfl), (zB_of 345 (by decide +kernel) rfl), (zB_of 346 (by decide +kernel) rfl), i_X7, co_X7_isReduced, pl_X7_isReduced⟩
theorem m_X2_62 : zLV RX2 62 yX7_whole cX7_whole 1 (some .long) 0 := ⟨(zB_of 348 (by decide +kernel) rfl), (zB_of 349 (by decide +kernel) rfl), (zB_of 350 (by decide +kernel) rfl), i_X7, co_X7_whole, pl_X7_whole⟩
theorem m_X7_31 : zLS RX7 31 yJ9_floorDiv_f86c9 cJ9_floorDiv_f86c9 6 (some .long) 2 := ⟨(zB_of 352 (by decide +kernel) rfl), (zB_of 353 (by decide +kernel) rfl), i_Math, co_J9_floorDiv_f86c9, pl_J9_floorDiv_f86c9⟩
theorem m_X2_66 : zLV RX2 66 yX7_advance cX7_advance 1 none 0 := ⟨(zB_of 356 (by decide +kernel) rfl), (zB_of 357 (by decide +kernel) rfl), (zB_of 358 (by decide +kernel) rfl), i_X7, co_X7_advance, pl_X7_advance⟩
theorem m_X7_37 : zLV RX7 37 yX7_whole cX7_whole 1 (some .long) 0 := ⟨(zB_of 360 (by decide +kernel) rfl), (zB_of 349 (by decide +kernel) rfl), (zB_of 350 (by decide +kernel) rfl), i_X7, co_X7_whole, pl_X7_whole⟩
theorem m_X2_69 : zLV RX2 69 yX2_chainConvergents cX2_chainConvergents 2 none 0 := ⟨(zB_of 361 (by decide +kernel) rfl), (zB_of 363 (by decide +kernel) rfl), (zB_of 1 (by decide +kernel) rfl), i_X2, co_X2_chainConvergents, pl_X2_chainConvergents⟩
theorem m_X2_92 : zLV RX2 92 yX1_begin cX1_begin 1 none 0 := ⟨(zB_of 365 (by decide +kernel) rfl), (zB_of 366 (by decide +kernel) rfl), (zB_of 367 (by decide +kernel) rfl), i_X1, co_X1_begin, pl_X1_begin⟩
theorem m_X2_94 : zLV RX2 94 yX2_termAt cX2_termAt 2 (some .int) 1 := ⟨(zB_of 369 (by decide +kernel) rfl), (zB_of 370 (by decide +kernel) rfl), (zB_of 371 (by decide +kernel) rfl), i_X2, co_X2_termAt, pl_X2_termAt⟩
theorem m_X2_98 : zLV RX2 98 yX1_add cX1_add 7 none 1 := ⟨(zB_of 373 (by decide +kernel) rfl), (zB_of 374 (by decide +kernel) rfl), (zB_of 375 (by decide +kernel) rfl), i_X1, co_X1_add, pl_X1_add⟩
theorem m_X1_28 : zLS RX1 28 yX1_isTooGreat cX1_isTooGreat 8 (some .boolean) 3 := ⟨(zB_of 377 (by decide +kernel) rfl), (zB_of 378 (by decide +kernel) rfl), i_X1, co_X1_isTooGreat, pl_X1_isTooGreat⟩
theorem m_X1_32 : Cond.methodLink RX1 32 Lib.MathLoose.abs_long.x ∈ zB := (zB_of 380 (by decide +kernel) rfl)
theorem m_L_13 : zLV RL 13 yX10_surd cX10_surd 4 (some .int) 3 := ⟨(zB_of 404 (by decide +kernel) rfl), (zB_of 405 (by decide +kernel) rfl), (zB_of 406 (by decide +kernel) rfl), i_X10, co_X10_surd, pl_X10_surd⟩
theorem m_X10_66 : zLS RX10 66 yX10_isWithin cX10_isWithin 3 (some .boolean) 3 := ⟨(zB_of 408 (by decide +kernel) rfl), (zB_of 409 (by decide +kernel) rfl), i_X10, co_X10_isWithin, pl_X10_isWithin⟩
theorem m_X10_71 : zLS RX10 71 yX10_isSquare cX10_isSquare 3 (some .boolean) 1 := ⟨(zB_of 412 (by decide +kernel) rfl), (zB_of 413 (by decide +kernel) rfl), i_X10, co_X10_isSquare, pl_X10_isSquare⟩
theorem m_X10_284 : zLS RX10 284 yX7_rootOf cX7_rootOf 6 (some .long) 1 := ⟨(zB_of 415 (by decide +kernel) rfl), (zB_of 337 (by decide +kernel) rfl), i_X7, co_X7_rootOf, pl_X7_rootOf⟩
theorem m_X10_76 : zLV RX10 76 yX3_keep cX3_keep 2 none 1 := ⟨(zB_of 417 (by decide +kernel) rfl), (zB_of 418 (by decide +kernel) rfl), (zB_of 419 (by decide +kernel) rfl), i_X3, co_X3_keep, pl_X3_keep⟩
theorem m_X3_22 : zLV RX3 22 yX3_dropOldest cX3_dropOldest 3 none 0 := ⟨(zB_of 421 (by decide +kernel) rfl), (zB_of 423 (by decide +kernel) rfl), (zB_of 2 (by decide +kernel) rfl), i_X3, co_X3_dropOldest, pl_X3_dropOldest⟩
theorem m_X3_25 : zLV RX3 25 yX6_copyFrom cX6_copyFrom 2 none 1 := ⟨(zB_of 425 (by decide +kernel) rfl), (zB_of 426 (by decide +kernel) rfl), (zB_of 427 (by decide +kernel) rfl), i_X6, co_X6_copyFrom, pl_X6_copyFrom⟩
theorem m_X6_33 : zLV RX6 33 yX8_set cX8_set 4 none 3 := ⟨(zB_of 429 (by decide +kernel) rfl), (zB_of 430 (by decide +kernel) rfl), (zB_of 431 (by decide +kernel) rfl), i_X8, co_X8_set, pl_X8_set⟩
theorem m_X6_37 : zLV RX6 37 yX0_copyFrom cX0_copyFrom 3 none 1 := ⟨(zB_of 433 (by decide +kernel) rfl), (zB_of 434 (by decide +kernel) rfl), (zB_of 435 (by decide +kernel) rfl), i_X0, co_X0_copyFrom, pl_X0_copyFrom⟩
theorem m_X0_22 : zLV RX0 22 yX0_upperAt cX0_upperAt 2 (some .int) 1 := ⟨(zB_of 437 (by decide +kernel) rfl), (zB_of 438 (by decide +kernel) rfl), (zB_of 439 (by decide +kernel) rfl), i_X0, co_X0_upperAt, pl_X0_upperAt⟩
theorem m_X0_26 : zLV RX0 26 yX0_lowerAt cX0_lowerAt 2 (some .int) 1 := ⟨(zB_of 441 (by decide +kernel) rfl), (zB_of 442 (by decide +kernel) rfl), (zB_of 443 (by decide +kernel) rfl), i_X0, co_X0_lowerAt, pl_X0_lowerAt⟩
theorem m_X0_35 : zLV RX0 35 yX0_put cX0_put 4 none 3 := ⟨(zB_of 445 (by decide +kernel) rfl), (zB_of 447 (by decide +kernel) rfl), (zB_of 3 (by decide +kernel) rfl), i_X0, co_X0_put, pl_X0_put⟩
theorem m_X10_80 : zLV RX10 80 yX8_set cX8_set 4 none 3 := ⟨(zB_of 449 (by decide +kernel) rfl), (zB_of 430 (by decide +kernel) rfl), (zB_of 431 (by decide +kernel) rfl), i_X8, co_X8_set, pl_X8_set⟩
theorem m_X10_90 : zLV RX10 90 yX0_putInOrder cX0_putInOrder 4 none 1 := ⟨(zB_of 450 (by decide +kernel) rfl), (zB_of 451 (by decide +kernel) rfl), (zB_of 452 (by decide +kernel) rfl), i_X0, co_X0_putInOrder, pl_X0_putInOrder⟩
theorem m_X0_39 : zLV RX0 39 yX0_add cX0_add 5 (some .int) 3 := ⟨(zB_of 454 (by decide +kernel) rfl), (zB_of 455 (by decide +kernel) rfl), (zB_of 456 (by decide +kernel) rfl), i_X0, co_X0_add, pl_X0_add⟩
theorem m_X0_29 : zLV RX0 29 yX8_isNearer cX8_isNearer 14 (some .boolean) 4 := ⟨(zB_of 458 (by decide +kernel) rfl), (zB_of 459 (by decide +kernel) rfl), (zB_of 460 (by decide +kernel) rfl), i_X8, co_X8_isNearer, pl_X8_isNearer⟩
theorem m_X8_19 : zLV RX8 19 yX8_isPassedBy cX8_isPassedBy 8 (some .boolean) 2 := ⟨(zB_of 462 (by decide +kernel) rfl), (zB_of 463 (by decide +kernel) rfl), (zB_of 464 (by decide +kernel) rfl), i_X8, co_X8_isPassedBy, pl_X8_isPassedBy⟩
theorem m_L_18 : zLV RL 18 yX10_partOf cX10_partOf 2 (some .int) 1 := ⟨(zB_of 467 (by decide +kernel) rfl), (zB_of 468 (by decide +kernel) rfl), (zB_of 469 (by decide +kernel) rfl), i_X10, co_X10_partOf, pl_X10_partOf⟩
theorem m_L_23 : zLV RL 23 yX10_term cX10_term 2 (some .int) 1 := ⟨(zB_of 471 (by decide +kernel) rfl), (zB_of 472 (by decide +kernel) rfl), (zB_of 473 (by decide +kernel) rfl), i_X10, co_X10_term, pl_X10_term⟩
theorem m_X10_105 : zLV RX10 105 yX2_termAt cX2_termAt 2 (some .int) 1 := ⟨(zB_of 475 (by decide +kernel) rfl), (zB_of 370 (by decide +kernel) rfl), (zB_of 371 (by decide +kernel) rfl), i_X2, co_X2_termAt, pl_X2_termAt⟩
theorem m_L_27 : zLV RL 27 yX10_again cX10_again 2 (some .int) 1 := ⟨(zB_of 476 (by decide +kernel) rfl), (zB_of 477 (by decide +kernel) rfl), (zB_of 478 (by decide +kernel) rfl), i_X10, co_X10_again, pl_X10_again⟩
theorem m_X10_109 : zLV RX10 109 yX2_comesAgain cX2_comesAgain 1 (some .boolean) 0 := ⟨(zB_of 480 (by decide +kernel) rfl), (zB_of 481 (by decide +kernel) rfl), (zB_of 482 (by decide +kernel) rfl), i_X2, co_X2_comesAgain, pl_X2_comesAgain⟩
theorem m_X10_120 : zLV RX10 120 yX2_greatestOfPeriod cX2_greatestOfPeriod 3 (some .int) 0 := ⟨(zB_of 485 (by decide +kernel) rfl), (zB_of 486 (by decide +kernel) rfl), (zB_of 487 (by decide +kernel) rfl), i_X2, co_X2_greatestOfPeriod, pl_X2_greatestOfPeriod⟩
theorem m_X2_112 : Cond.methodLink RX2 112 Lib.Math.max.name ∈ zB := (zB_of 489 (by decide +kernel) rfl)
theorem m_X10_124 : zLV RX10 124 yX2_unlikeOfPeriod cX2_unlikeOfPeriod 3 (some .int) 0 := ⟨(zB_of 492 (by decide +kernel) rfl), (zB_of 493 (by decide +kernel) rfl), (zB_of 494 (by decide +kernel) rfl), i_X2, co_X2_unlikeOfPeriod, pl_X2_unlikeOfPeriod⟩
theorem m_X2_118 : zLV RX2 118 yX2_isNewInPeriod cX2_isNewInPeriod 3 (some .boolean) 1 := ⟨(zB_of 496 (by decide +kernel) rfl), (zB_of 498 (by decide +kernel) rfl), (zB_of 4 (by decide +kernel) rfl), i_X2, co_X2_isNewInPeriod, pl_X2_isNewInPeriod⟩
theorem m_X10_127 : zLV RX10 127 yX2_isPeriodMirrored cX2_isPeriodMirrored 3 (some .boolean) 0 := ⟨(zB_of 500 (by decide +kernel) rfl), (zB_of 501 (by decide +kernel) rfl), (zB_of 502 (by decide +kernel) rfl), i_X2, co_X2_isPeriodMirrored, pl_X2_isPeriodMirrored⟩
theorem m_X10_130 : zLS RX10 130 yX10_oneIf cX10_oneIf 1 (some .int) 1 := ⟨(zB_of 504 (by decide +kernel) rfl), (zB_of 505 (by decide +kernel) rfl), i_X10, co_X10_oneIf, pl_X10_oneIf⟩
theorem m_L_31 : zLV RL 31 yX10_convergent cX10_convergent 3 (some .long) 2 := ⟨(zB_of 507 (by decide +kernel) rfl), (zB_of 508 (by decide +kernel) rfl), (zB_of 509 (by decide +kernel) rfl), i_X10, co_X10_convergent, pl_X10_convergent⟩
theorem m_X10_141 : zLV RX10 141 yX2_upperAt cX2_upperAt 2 (some .long) 1 := ⟨(zB_of 513 (by decide +kernel) rfl), (zB_of 514 (by decide +kernel) rfl), (zB_of 515 (by decide +kernel) rfl), i_X2, co_X2_upperAt, pl_X2_upperAt⟩
theorem m_X10_147 : zLV RX10 147 yX2_lowerAt cX2_lowerAt 2 (some .long) 1 := ⟨(zB_of 518 (by decide +kernel) rfl), (zB_of 519 (by decide +kernel) rfl), (zB_of 520 (by decide +kernel) rfl), i_X2, co_X2_lowerAt, pl_X2_lowerAt⟩
theorem m_L_36 : zLV RL 36 yX10_between cX10_between 4 (some .long) 3 := ⟨(zB_of 522 (by decide +kernel) rfl), (zB_of 523 (by decide +kernel) rfl), (zB_of 524 (by decide +kernel) rfl), i_X10, co_X10_between, pl_X10_between⟩
theorem m_L_41 : zLV RL 41 yX10_nearest cX10_nearest 3 (some .int) 2 := ⟨(zB_of 526 (by decide +kernel) rfl), (zB_of 527 (by decide +kernel) rfl), (zB_of 528 (by decide +kernel) rfl), i_X10, co_X10_nearest, pl_X10_nearest⟩
theorem m_X10_150 : zLV RX10 150 yX4_find cX4_find 5 none 3 := ⟨(zB_of 530 (by decide +kernel) rfl), (zB_of 531 (by decide +kernel) rfl), (zB_of 532 (by decide +kernel) rfl), i_X4, co_X4_find, pl_X4_find⟩
theorem m_X4_26 : zLV RX4 26 yX4_takeMediant cX4_takeMediant 6 none 1 := ⟨(zB_of 534 (by decide +kernel) rfl), (zB_of 536 (by decide +kernel) rfl), (zB_of 5 (by decide +kernel) rfl), i_X4, co_X4_takeMediant, pl_X4_takeMediant⟩
theorem m_X4_30 : zLV RX4 30 yX8_isNearer cX8_isNearer 14 (some .boolean) 4 := ⟨(zB_of 538 (by decide +kernel) rfl), (zB_of 459 (by decide +kernel) rfl), (zB_of 460 (by decide +kernel) rfl), i_X8, co_X8_isNearer, pl_X8_isNearer⟩
theorem m_X4_36 : zLV RX4 36 yX8_isPassedBy cX8_isPassedBy 8 (some .boolean) 2 := ⟨(zB_of 539 (by decide +kernel) rfl), (zB_of 463 (by decide +kernel) rfl), (zB_of 464 (by decide +kernel) rfl), i_X8, co_X8_isPassedBy, pl_X8_isPassedBy⟩
theorem m_X10_154 : zLV RX10 154 yX4_isAboveNearer cX4_isAboveNearer 2 (some .boolean) 1 := ⟨(zB_of 540 (by decide +kernel) rfl), (zB_of 541 (by decide +kernel) rfl), (zB_of 542 (by decide +kernel) rfl), i_X4, co_X4_isAboveNearer, pl_X4_isAboveNearer⟩
theorem m_X10_158 : zLV RX10 158 yX10_neighbourPart cX10_neighbourPart 3 (some .int) 2 := ⟨(zB_of 544 (by decide +kernel) rfl), (zB_of 546 (by decide +kernel) rfl), (zB_of 6 (by decide +kernel) rfl), i_X10, co_X10_neighbourPart, pl_X10_neighbourPart⟩
theorem m_L_46 : zLV RL 46 yX10_beside cX10_beside 4 (some .int) 3 := ⟨(zB_of 549 (by decide +kernel) rfl), (zB_of 550 (by decide +kernel) rfl), (zB_of 551 (by decide +kernel) rfl), i_X10, co_X10_beside, pl_X10_beside⟩
theorem m_L_50 : zLV RL 50 yX10_records cX10_records 2 (some .int) 1 := ⟨(zB_of 553 (by decide +kernel) rfl), (zB_of 554 (by decide +kernel) rfl), (zB_of 555 (by decide +kernel) rfl), i_X10, co_X10_records, pl_X10_records⟩
theorem m_L_54 : zLV RL 54 yX10_solution cX10_solution 4 (some .int) 3 := ⟨(zB_of 557 (by decide +kernel) rfl), (zB_of 558 (by decide +kernel) rfl), (zB_of 559 (by decide +kernel) rfl), i_X10, co_X10_solution, pl_X10_solution⟩
theorem m_X10_165 : zLS RX10 165 yX10_isRightSide cX10_isRightSide 1 (some .boolean) 1 := ⟨(zB_of 561 (by decide +kernel) rfl), (zB_of 562 (by decide +kernel) rfl), i_X10, co_X10_isRightSide, pl_X10_isRightSide⟩
theorem m_X10_168 : zLV RX10 168 yX5_find cX5_find 8 (some .boolean) 3 := ⟨(zB_of 564 (by decide +kernel) rfl), (zB_of 565 (by decide +kernel) rfl), (zB_of 566 (by decide +kernel) rfl), i_X5, co_X5_find, pl_X5_find⟩
theorem m_X5_33 : zLS RX5 33 yX7_rootOf cX7_rootOf 6 (some .long) 1 := ⟨(zB_of 568 (by decide +kernel) rfl), (zB_of 337 (by decide +kernel) rfl), i_X7, co_X7_rootOf, pl_X7_rootOf⟩
theorem m_X5_46 : zLV RX5 46 yX5_goToRootOf cX5_goToRootOf 3 none 1 := ⟨(zB_of 570 (by decide +kernel) rfl), (zB_of 572 (by decide +kernel) rfl), (zB_of 7 (by decide +kernel) rfl), i_X5, co_X5_goToRootOf, pl_X5_goToRootOf⟩
theorem m_L_58 : zLV RL 58 yX10_solutions cX10_solutions 2 (some .int) 1 := ⟨(zB_of 576 (by decide +kernel) rfl), (zB_of 577 (by decide +kernel) rfl), (zB_of 578 (by decide +kernel) rfl), i_X10, co_X10_solutions, pl_X10_solutions⟩
theorem m_X10_178 : zLV RX10 178 yX5_countAll cX5_countAll 3 (some .int) 2 := ⟨(zB_of 580 (by decide +kernel) rfl), (zB_of 581 (by decide +kernel) rfl), (zB_of 582 (by decide +kernel) rfl), i_X5, co_X5_countAll, pl_X5_countAll⟩
theorem m_X5_25 : zLV RX5 25 yX5_find cX5_find 8 (some .boolean) 3 := ⟨(zB_of 584 (by decide +kernel) rfl), (zB_of 565 (by decide +kernel) rfl), (zB_of 566 (by decide +kernel) rfl), i_X5, co_X5_find, pl_X5_find⟩
theorem m_L_62 : zLV RL 62 yX10_leastSolution cX10_leastSolution 2 (some .long) 1 := ⟨(zB_of 585 (by decide +kernel) rfl), (zB_of 586 (by decide +kernel) rfl), (zB_of 587 (by decide +kernel) rfl), i_X10, co_X10_leastSolution, pl_X10_leastSolution⟩
theorem m_X10_182 : zLV RX10 182 yX5_findLeast cX5_findLeast 3 (some .boolean) 1 := ⟨(zB_of 589 (by decide +kernel) rfl), (zB_of 590 (by decide +kernel) rfl), (zB_of 591 (by decide +kernel) rfl), i_X5, co_X5_findLeast, pl_X5_findLeast⟩
theorem m_X5_52 : zLV RX5 52 yX7_begin cX7_begin 9 none 3 := ⟨(zB_of 593 (by decide +kernel) rfl), (zB_of 330 (by decide +kernel) rfl), (zB_of 331 (by decide +kernel) rfl), i_X7, co_X7_begin, pl_X7_begin⟩
theorem m_X5_56 : zLV RX5 56 yX1_begin cX1_begin 1 none 0 := ⟨(zB_of 594 (by decide +kernel) rfl), (zB_of 366 (by decide +kernel) rfl), (zB_of 367 (by decide +kernel) rfl), i_X1, co_X1_begin, pl_X1_begin⟩
theorem m_X5_58 : zLV RX5 58 yX7_whole cX7_whole 1 (some .long) 0 := ⟨(zB_of 595 (by decide +kernel) rfl), (zB_of 349 (by decide +kernel) rfl), (zB_of 350 (by decide +kernel) rfl), i_X7, co_X7_whole, pl_X7_whole⟩
theorem m_X5_62 : zLV RX5 62 yX1_add cX1_add 7 none 1 := ⟨(zB_of 596 (by decide +kernel) rfl), (zB_of 374 (by decide +kernel) rfl), (zB_of 375 (by decide +kernel) rfl), i_X1, co_X1_add, pl_X1_add⟩
theorem m_X5_65 : zLV RX5 65 yX7_advance cX7_advance 1 none 0 := ⟨(zB_of 597 (by decide +kernel) rfl), (zB_of 357 (by decide +kernel) rfl), (zB_of 358 (by decide +kernel) rfl), i_X7, co_X7_advance, pl_X7_advance⟩
theorem m_L_67 : zLV RL 67 yX10_note cX10_note 1 (some .int) 0 := ⟨(zB_of 598 (by decide +kernel) rfl), (zB_of 599 (by decide +kernel) rfl), (zB_of 600 (by decide +kernel) rfl), i_X10, co_X10_note, pl_X10_note⟩
theorem m_X10_185 : zLV RX10 185 yX9_read cX9_read 5 none 0 := ⟨(zB_of 602 (by decide +kernel) rfl), (zB_of 603 (by decide +kernel) rfl), (zB_of 604 (by decide +kernel) rfl), i_X9, co_X9_read, pl_X9_read⟩
theorem m_X9_23 : zLV RX9 23 yX9_characterAt cX9_characterAt 2 (some .char) 1 := ⟨(zB_of 606 (by decide +kernel) rfl), (zB_of 608 (by decide +kernel) rfl), (zB_of 8 (by decide +kernel) rfl), i_X9, co_X9_characterAt, pl_X9_characterAt⟩
theorem m_X9_36 : zLV RX9 36 yX9_readNumber cX9_readNumber 5 (some .int) 2 := ⟨(zB_of 610 (by decide +kernel) rfl), (zB_of 612 (by decide +kernel) rfl), (zB_of 9 (by decide +kernel) rfl), i_X9, co_X9_readNumber, pl_X9_readNumber⟩
theorem m_X9_44 : zLV RX9 44 yX9_digitAt cX9_digitAt 3 (some .int) 1 := ⟨(zB_of 614 (by decide +kernel) rfl), (zB_of 616 (by decide +kernel) rfl), (zB_of 10 (by decide +kernel) rfl), i_X9, co_X9_digitAt, pl_X9_digitAt⟩
theorem m_X9_40 : zLV RX9 40 yX9_setFault cX9_setFault 3 none 2 := ⟨(zB_of 618 (by decide +kernel) rfl), (zB_of 620 (by decide +kernel) rfl), (zB_of 11 (by decide +kernel) rfl), i_X9, co_X9_setFault, pl_X9_setFault⟩
theorem m_X9_48 : zLV RX9 48 yX9_addTerm cX9_addTerm 2 none 1 := ⟨(zB_of 622 (by decide +kernel) rfl), (zB_of 624 (by decide +kernel) rfl), (zB_of 12 (by decide +kernel) rfl), i_X9, co_X9_addTerm, pl_X9_addTerm⟩
theorem m_X10_188 : zLV RX10 188 yX9_hasFault cX9_hasFault 1 (some .boolean) 0 := ⟨(zB_of 626 (by decide +kernel) rfl), (zB_of 627 (by decide +kernel) rfl), (zB_of 628 (by decide +kernel) rfl), i_X9, co_X9_hasFault, pl_X9_hasFault⟩
theorem m_X10_191 : zLV RX10 191 yX9_chainTerms cX9_chainTerms 3 none 1 := ⟨(zB_of 630 (by decide +kernel) rfl), (zB_of 631 (by decide +kernel) rfl), (zB_of 632 (by decide +kernel) rfl), i_X9, co_X9_chainTerms, pl_X9_chainTerms⟩
theorem m_X9_52 : zLV RX9 52 yX1_begin cX1_begin 1 none 0 := ⟨(zB_of 634 (by decide +kernel) rfl), (zB_of 366 (by decide +kernel) rfl), (zB_of 367 (by decide +kernel) rfl), i_X1, co_X1_begin, pl_X1_begin⟩
theorem m_X9_57 : zLV RX9 57 yX9_termAt cX9_termAt 2 (some .int) 1 := ⟨(zB_of 635 (by decide +kernel) rfl), (zB_of 636 (by decide +kernel) rfl), (zB_of 637 (by decide +kernel) rfl), i_X9, co_X9_termAt, pl_X9_termAt⟩
theorem m_X9_60 : zLV RX9 60 yX1_add cX1_add 7 none 1 := ⟨(zB_of 639 (by decide +kernel) rfl), (zB_of 374 (by decide +kernel) rfl), (zB_of 375 (by decide +kernel) rfl), i_X1, co_X1_add, pl_X1_add⟩
theorem m_X10_195 : zLS RX10 195 yX10_fitsBook cX10_fitsBook 1 (some .boolean) 1 := ⟨(zB_of 640 (by decide +kernel) rfl), (zB_of 641 (by decide +kernel) rfl), i_X10, co_X10_fitsBook, pl_X10_fitsBook⟩
theorem m_X10_290 : Cond.methodLink RX10 290 Lib.MathLoose.abs_long.x ∈ zB := (zB_of 643 (by decide +kernel) rfl)
theorem m_X10_205 : zLV RX10 205 yX0_has cX0_has 6 (some .boolean) 2 := ⟨(zB_of 646 (by decide +kernel) rfl), (zB_of 647 (by decide +kernel) rfl), (zB_of 648 (by decide +kernel) rfl), i_X0, co_X0_has, pl_X0_has⟩
theorem m_X10_212 : zLV RX10 212 yX0_add cX0_add 5 (some .int) 3 := ⟨(zB_of 650 (by decide +kernel) rfl), (zB_of 455 (by decide +kernel) rfl), (zB_of 456 (by decide +kernel) rfl), i_X0, co_X0_add, pl_X0_add⟩
theorem m_L_72 : zLV RL 72 yX10_strike cX10_strike 2 (some .int) 1 := ⟨(zB_of 651 (by decide +kernel) rfl), (zB_of 652 (by decide +kernel) rfl), (zB_of 653 (by decide +kernel) rfl), i_X10, co_X10_strike, pl_X10_strike⟩
theorem m_X10_216 : zLV RX10 216 yX0_remove cX0_remove 3 none 1 := ⟨(zB_of 655 (by decide +kernel) rfl), (zB_of 656 (by decide +kernel) rfl), (zB_of 657 (by decide +kernel) rfl), i_X0, co_X0_remove, pl_X0_remove⟩
theorem m_L_76 : zLV RL 76 yX10_strikeAll cX10_strikeAll 2 (some .int) 0 := ⟨(zB_of 659 (by decide +kernel) rfl), (zB_of 660 (by decide +kernel) rfl), (zB_of 661 (by decide +kernel) rfl), i_X10, co_X10_strikeAll, pl_X10_strikeAll⟩
theorem m_L_80 : zLV RL 80 yX10_noteOf cX10_noteOf 5 (some .int) 2 := ⟨(zB_of 663 (by decide +kernel) rfl), (zB_of 664 (by decide +kernel) rfl), (zB_of 665 (by decide +kernel) rfl), i_X10, co_X10_noteOf, pl_X10_noteOf⟩
theorem m_X10_220 : zLV RX10 220 yX0_upperAt cX0_upperAt 2 (some .int) 1 := ⟨(zB_of 667 (by decide +kernel) rfl), (zB_of 438 (by decide +kernel) rfl), (zB_of 439 (by decide +kernel) rfl), i_X0, co_X0_upperAt, pl_X0_upperAt⟩
theorem m_X10_222 : zLV RX10 222 yX0_lowerAt cX0_lowerAt 2 (some .int) 1 := ⟨(zB_of 668 (by decide +kernel) rfl), (zB_of 442 (by decide +kernel) rfl), (zB_of 443 (by decide +kernel) rfl), i_X0, co_X0_lowerAt, pl_X0_lowerAt⟩
theorem m_X10_225 : zLV RX10 225 yX8_isPassedBy cX8_isPassedBy 8 (some .boolean) 2 := ⟨(zB_of 669 (by decide +kernel) rfl), (zB_of 463 (by decide +kernel) rfl), (zB_of 464 (by decide +kernel) rfl), i_X8, co_X8_isPassedBy, pl_X8_isPassedBy⟩
theorem m_X10_228 : zLV RX10 228 yX2_hasConvergent cX2_hasConvergent 6 (some .boolean) 2 := ⟨(zB_of 670 (by decide +kernel) rfl), (zB_of 671 (by decide +kernel) rfl), (zB_of 672 (by decide +kernel) rfl), i_X2, co_X2_hasConvergent, pl_X2_hasConvergent⟩
theorem m_X2_122 : zLV RX2 122 yX2_upperAt cX2_upperAt 2 (some .long) 1 := ⟨(zB_of 674 (by decide +kernel) rfl), (zB_of 514 (by decide +kernel) rfl), (zB_of 515 (by decide +kernel) rfl), i_X2, co_X2_upperAt, pl_X2_upperAt⟩
theorem m_X2_126 : zLV RX2 126 yX2_lowerAt cX2_lowerAt 2 (some .long) 1 := ⟨(zB_of 675 (by decide +kernel) rfl), (zB_of 519 (by decide +kernel) rfl), (zB_of 520 (by decide +kernel) rfl), i_X2, co_X2_lowerAt, pl_X2_lowerAt⟩
theorem m_L_84 : zLV RL 84 yX10_count cX10_count 2 (some .int) 1 := ⟨(zB_of 676 (by decide +kernel) rfl), (zB_of 677 (by decide +kernel) rfl), (zB_of 678 (by decide +kernel) rfl), i_X10, co_X10_count, pl_X10_count⟩
theorem m_X10_231 : zLV RX10 231 yX0_countAbove cX0_countAbove 4 (some .int) 1 := ⟨(zB_of 680 (by decide +kernel) rfl), (zB_of 681 (by decide +kernel) rfl), (zB_of 682 (by decide +kernel) rfl), i_X0, co_X0_countAbove, pl_X0_countAbove⟩
theorem m_X0_43 : zLV RX0 43 yX8_isPassedBy cX8_isPassedBy 8 (some .boolean) 2 := ⟨(zB_of 684 (by decide +kernel) rfl), (zB_of 463 (by decide +kernel) rfl), (zB_of 464 (by decide +kernel) rfl), i_X8, co_X8_isPassedBy, pl_X8_isPassedBy⟩
theorem m_L_88 : zLV RL 88 yX10_undo cX10_undo 1 (some .int) 0 := ⟨(zB_of 685 (by decide +kernel) rfl), (zB_of 686 (by decide +kernel) rfl), (zB_of 687 (by decide +kernel) rfl), i_X10, co_X10_undo, pl_X10_undo⟩
theorem m_X10_239 : zLV RX10 239 yX3_takeBack cX3_takeBack 2 none 1 := ⟨(zB_of 689 (by decide +kernel) rfl), (zB_of 690 (by decide +kernel) rfl), (zB_of 691 (by decide +kernel) rfl), i_X3, co_X3_takeBack, pl_X3_takeBack⟩
theorem m_L_92 : zLV RL 92 yX10_type cX10_type 2 (some .int) 1 := ⟨(zB_of 693 (by decide +kernel) rfl), (zB_of 694 (by decide +kernel) rfl), (zB_of 695 (by decide +kernel) rfl), i_X10, co_X10_type, pl_X10_type⟩
theorem m_X10_242 : zLV RX10 242 yX9_append cX9_append 2 none 1 := ⟨(zB_of 697 (by decide +kernel) rfl), (zB_of 698 (by decide +kernel) rfl), (zB_of 699 (by decide +kernel) rfl), i_X9, co_X9_append, pl_X9_append⟩
theorem m_L_96 : zLV RL 96 yX10_clearText cX10_clearText 2 (some .int) 0 := ⟨(zB_of 701 (by decide +kernel) rfl), (zB_of 702 (by decide +kernel) rfl), (zB_of 703 (by decide +kernel) rfl), i_X10, co_X10_clearText, pl_X10_clearText⟩
theorem m_L_100 : zLV RL 100 yX10_fault cX10_fault 2 (some .int) 1 := ⟨(zB_of 705 (by decide +kernel) rfl), (zB_of 706 (by decide +kernel) rfl), (zB_of 707 (by decide +kernel) rfl), i_X10, co_X10_fault, pl_X10_fault⟩
theorem m_L_104 : zLV RL 104 yX10_told cX10_told 2 (some .long) 1 := ⟨(zB_of 709 (by decide +kernel) rfl), (zB_of 710 (by decide +kernel) rfl), (zB_of 711 (by decide +kernel) rfl), i_X10, co_X10_told, pl_X10_told⟩
theorem m_X10_257 : zLV RX10 257 yX2_countShared cX2_countShared 3 (some .int) 1 := ⟨(zB_of 714 (by decide +kernel) rfl), (zB_of 715 (by decide +kernel) rfl), (zB_of 716 (by decide +kernel) rfl), i_X2, co_X2_countShared, pl_X2_countShared⟩
theorem m_X2_134 : zLV RX2 134 yX9_termAt cX9_termAt 2 (some .int) 1 := ⟨(zB_of 718 (by decide +kernel) rfl), (zB_of 636 (by decide +kernel) rfl), (zB_of 637 (by decide +kernel) rfl), i_X9, co_X9_termAt, pl_X9_termAt⟩
theorem m_X10_261 : zLV RX10 261 yX10_toldAbove cX10_toldAbove 1 (some .long) 0 := ⟨(zB_of 719 (by decide +kernel) rfl), (zB_of 721 (by decide +kernel) rfl), (zB_of 13 (by decide +kernel) rfl), i_X10, co_X10_toldAbove, pl_X10_toldAbove⟩
theorem m_X10_265 : zLV RX10 265 yX10_toldPart cX10_toldPart 2 (some .long) 1 := ⟨(zB_of 723 (by decide +kernel) rfl), (zB_of 725 (by decide +kernel) rfl), (zB_of 14 (by decide +kernel) rfl), i_X10, co_X10_toldPart, pl_X10_toldPart⟩
theorem m_L_12 : zLI RL 12 yX11_init cX11_init 1 0 := ⟨(zB_of 729 (by decide +kernel) rfl), (zB_of 730 (by decide +kernel) rfl), i_X11, co_X11_init, pl_X11_init, rfl⟩
theorem m_X11_1 : Cond.methodLink RX11 1 objectInit ∈ zB := (zB_of 732 (by decide +kernel) rfl)
theorem m_L_17 : zLV RL 17 yX11_surd cX11_surd 6 (some .int) 3 := ⟨(zB_of 800 (by decide +kernel) rfl), (zB_of 801 (by decide +kernel) rfl), (zB_of 802 (by decide +kernel) rfl), i_X11, co_X11_surd, pl_X11_surd⟩
theorem m_X11_44 : zLS RX11 44 yX11_in cX11_in 6 (some .boolean) 3 := ⟨(zB_of 806 (by decide +kernel) rfl), (zB_of 807 (by decide +kernel) rfl), i_X11, co_X11_in, pl_X11_in⟩
theorem m_X11_51 : zLS RX11 51 yX11_root cX11_root 9 (some .long) 1 := ⟨(zB_of 812 (by decide +kernel) rfl), (zB_of 813 (by decide +kernel) rfl), i_X11, co_X11_root, pl_X11_root⟩
theorem m_X11_56 : zLV RX11 56 yX11_changes cX11_changes 2 none 0 := ⟨(zB_of 817 (by decide +kernel) rfl), (zB_of 819 (by decide +kernel) rfl), (zB_of 15 (by decide +kernel) rfl), i_X11, co_X11_changes, pl_X11_changes⟩
theorem m_L_22 : zLV RL 22 yX11_partOf cX11_partOf 2 (some .int) 1 := ⟨(zB_of 821 (by decide +kernel) rfl), (zB_of 822 (by decide +kernel) rfl), (zB_of 823 (by decide +kernel) rfl), i_X11, co_X11_partOf, pl_X11_partOf⟩
theorem m_L_26 : zLV RL 26 yX11_term cX11_term 2 (some .int) 1 := ⟨(zB_of 825 (by decide +kernel) rfl), (zB_of 826 (by decide +kernel) rfl), (zB_of 827 (by decide +kernel) rfl), i_X11, co_X11_term, pl_X11_term⟩
theorem m_X11_69 : zLV RX11 69 yX11_lays cX11_lays 3 none 0 := ⟨(zB_of 830 (by decide +kernel) rfl), (zB_of 832 (by decide +kernel) rfl), (zB_of 16 (by decide +kernel) rfl), i_X11, co_X11_lays, pl_X11_lays⟩
theorem m_X11_63 : zLV RX11 63 yX11_laysOf cX11_laysOf 16 none 3 := ⟨(zB_of 834 (by decide +kernel) rfl), (zB_of 836 (by decide +kernel) rfl), (zB_of 17 (by decide +kernel) rfl), i_X11, co_X11_laysOf, pl_X11_laysOf⟩
theorem m_X11_59 : zLS RX11 59 yX11_down cX11_down 6 (some .long) 2 := ⟨(zB_of 838 (by decide +kernel) rfl), (zB_of 839 (by decide +kernel) rfl), i_X11, co_X11_down, pl_X11_down⟩
theorem m_L_30 : zLV RL 30 yX11_again cX11_again 3 (some .int) 1 := ⟨(zB_of 841 (by decide +kernel) rfl), (zB_of 842 (by decide +kernel) rfl), (zB_of 843 (by decide +kernel) rfl), i_X11, co_X11_again, pl_X11_again⟩
theorem m_X11_77 : zLV RX11 77 yX11_period cX11_period 3 (some .int) 0 := ⟨(zB_of 846 (by decide +kernel) rfl), (zB_of 848 (by decide +kernel) rfl), (zB_of 18 (by decide +kernel) rfl), i_X11, co_X11_period, pl_X11_period⟩
theorem m_X11_82 : zLV RX11 82 yX11_greatest cX11_greatest 4 (some .int) 1 := ⟨(zB_of 851 (by decide +kernel) rfl), (zB_of 853 (by decide +kernel) rfl), (zB_of 19 (by decide +kernel) rfl), i_X11, co_X11_greatest, pl_X11_greatest⟩
theorem m_X11_86 : zLV RX11 86 yX11_unlike cX11_unlike 6 (some .int) 1 := ⟨(zB_of 855 (by decide +kernel) rfl), (zB_of 857 (by decide +kernel) rfl), (zB_of 20 (by decide +kernel) rfl), i_X11, co_X11_unlike, pl_X11_unlike⟩
theorem m_X11_89 : zLV RX11 89 yX11_isMirror cX11_isMirror 4 (some .boolean) 1 := ⟨(zB_of 859 (by decide +kernel) rfl), (zB_of 861 (by decide +kernel) rfl), (zB_of 21 (by decide +kernel) rfl), i_X11, co_X11_isMirror, pl_X11_isMirror⟩
theorem m_L_35 : zLV RL 35 yX11_convergent cX11_convergent 3 (some .long) 2 := ⟨(zB_of 863 (by decide +kernel) rfl), (zB_of 864 (by decide +kernel) rfl), (zB_of 865 (by decide +kernel) rfl), i_X11, co_X11_convergent, pl_X11_convergent⟩
theorem m_X11_122 : zLV RX11 122 yX11_goesTo cX11_goesTo 4 (some .boolean) 1 := ⟨(zB_of 868 (by decide +kernel) rfl), (zB_of 870 (by decide +kernel) rfl), (zB_of 22 (by decide +kernel) rfl), i_X11, co_X11_goesTo, pl_X11_goesTo⟩
theorem m_X11_113 : zLV RX11 113 yX11_begins cX11_begins 1 none 0 := ⟨(zB_of 872 (by decide +kernel) rfl), (zB_of 874 (by decide +kernel) rfl), (zB_of 23 (by decide +kernel) rfl), i_X11, co_X11_begins, pl_X11_begins⟩
theorem m_X11_116 : zLV RX11 116 yX11_goesOn cX11_goesOn 9 (some .boolean) 1 := ⟨(zB_of 876 (by decide +kernel) rfl), (zB_of 878 (by decide +kernel) rfl), (zB_of 24 (by decide +kernel) rfl), i_X11, co_X11_goesOn, pl_X11_goesOn⟩
theorem m_X11_106 : zLS RX11 106 yX11_size cX11_size 2 (some .long) 1 := ⟨(zB_of 880 (by decide +kernel) rfl), (zB_of 881 (by decide +kernel) rfl), i_X11, co_X11_size, pl_X11_size⟩
theorem m_L_40 : zLV RL 40 yX11_between cX11_between 6 (some .long) 3 := ⟨(zB_of 886 (by decide +kernel) rfl), (zB_of 887 (by decide +kernel) rfl), (zB_of 888 (by decide +kernel) rfl), i_X11, co_X11_between, pl_X11_between⟩
theorem m_L_45 : zLV RL 45 yX11_nearest cX11_nearest 3 (some .int) 2 := ⟨(zB_of 890 (by decide +kernel) rfl), (zB_of 891 (by decide +kernel) rfl), (zB_of 892 (by decide +kernel) rfl), i_X11, co_X11_nearest, pl_X11_nearest⟩
theorem m_X11_148 : zLV RX11 148 yX11_seeks cX11_seeks 6 (some .int) 1 := ⟨(zB_of 895 (by decide +kernel) rfl), (zB_of 897 (by decide +kernel) rfl), (zB_of 25 (by decide +kernel) rfl), i_X11, co_X11_seeks, pl_X11_seeks⟩
theorem m_X11_131 : zLV RX11 131 yX11_floorOf cX11_floorOf 4 (some .long) 1 := ⟨(zB_of 899 (by decide +kernel) rfl), (zB_of 901 (by decide +kernel) rfl), (zB_of 26 (by decide +kernel) rfl), i_X11, co_X11_floorOf, pl_X11_floorOf⟩
theorem m_X11_135 : zLV RX11 135 yX11_isNearer cX11_isNearer 12 (some .boolean) 4 := ⟨(zB_of 903 (by decide +kernel) rfl), (zB_of 905 (by decide +kernel) rfl), (zB_of 27 (by decide +kernel) rfl), i_X11, co_X11_isNearer, pl_X11_isNearer⟩
theorem m_X11_127 : zLV RX11 127 yX11_isAbove cX11_isAbove 8 (some .boolean) 2 := ⟨(zB_of 907 (by decide +kernel) rfl), (zB_of 909 (by decide +kernel) rfl), (zB_of 28 (by decide +kernel) rfl), i_X11, co_X11_isAbove, pl_X11_isAbove⟩
theorem m_X11_151 : zLV RX11 151 yX11_best cX11_best 2 (some .int) 1 := ⟨(zB_of 911 (by decide +kernel) rfl), (zB_of 913 (by decide +kernel) rfl), (zB_of 29 (by decide +kernel) rfl), i_X11, co_X11_best, pl_X11_best⟩
theorem m_L_49 : zLV RL 49 yX11_beside cX11_beside 9 (some .int) 3 := ⟨(zB_of 916 (by decide +kernel) rfl), (zB_of 917 (by decide +kernel) rfl), (zB_of 918 (by decide +kernel) rfl), i_X11, co_X11_beside, pl_X11_beside⟩
theorem m_L_53 : zLV RL 53 yX11_records cX11_records 2 (some .int) 1 := ⟨(zB_of 920 (by decide +kernel) rfl), (zB_of 921 (by decide +kernel) rfl), (zB_of 922 (by decide +kernel) rfl), i_X11, co_X11_records, pl_X11_records⟩
theorem m_L_57 : zLV RL 57 yX11_solution cX11_solution 4 (some .int) 3 := ⟨(zB_of 924 (by decide +kernel) rfl), (zB_of 925 (by decide +kernel) rfl), (zB_of 926 (by decide +kernel) rfl), i_X11, co_X11_solution, pl_X11_solution⟩
theorem m_X11_169 : zLS RX11 169 yX11_isN cX11_isN 1 (some .boolean) 1 := ⟨(zB_of 928 (by decide +kernel) rfl), (zB_of 929 (by decide +kernel) rfl), i_X11, co_X11_isN, pl_X11_isN⟩
theorem m_X11_172 : zLV RX11 172 yX11_solves cX11_solves 8 none 2 := ⟨(zB_of 933 (by decide +kernel) rfl), (zB_of 935 (by decide +kernel) rfl), (zB_of 30 (by decide +kernel) rfl), i_X11, co_X11_solves, pl_X11_solves⟩
theorem m_L_61 : zLV RL 61 yX11_solutions cX11_solutions 2 (some .int) 1 := ⟨(zB_of 939 (by decide +kernel) rfl), (zB_of 940 (by decide +kernel) rfl), (zB_of 941 (by decide +kernel) rfl), i_X11, co_X11_solutions, pl_X11_solutions⟩
theorem m_L_66 : zLV RL 66 yX11_leastSolution cX11_leastSolution 3 (some .long) 1 := ⟨(zB_of 943 (by decide +kernel) rfl), (zB_of 944 (by decide +kernel) rfl), (zB_of 945 (by decide +kernel) rfl), i_X11, co_X11_leastSolution, pl_X11_leastSolution⟩
theorem m_L_103 : zLV RL 103 yX11_fault cX11_fault 2 (some .int) 1 := ⟨(zB_of 947 (by decide +kernel) rfl), (zB_of 948 (by decide +kernel) rfl), (zB_of 949 (by decide +kernel) rfl), i_X11, co_X11_fault, pl_X11_fault⟩
theorem m_X11_203 : zLV RX11 203 yX11_reads cX11_reads 3 (some .boolean) 0 := ⟨(zB_of 951 (by decide +kernel) rfl), (zB_of 953 (by decide +kernel) rfl), (zB_of 31 (by decide +kernel) rfl), i_X11, co_X11_reads, pl_X11_reads⟩
theorem m_X11_197 : zLV RX11 197 yX11_passes cX11_passes 3 (some .boolean) 1 := ⟨(zB_of 955 (by decide +kernel) rfl), (zB_of 957 (by decide +kernel) rfl), (zB_of 32 (by decide +kernel) rfl), i_X11, co_X11_passes, pl_X11_passes⟩
theorem m_X11_183 : zLV RX11 183 yX11_isAt cX11_isAt 3 (some .boolean) 2 := ⟨(zB_of 959 (by decide +kernel) rfl), (zB_of 961 (by decide +kernel) rfl), (zB_of 33 (by decide +kernel) rfl), i_X11, co_X11_isAt, pl_X11_isAt⟩
theorem m_X11_190 : zLV RX11 190 yX11_number cX11_number 3 (some .boolean) 0 := ⟨(zB_of 963 (by decide +kernel) rfl), (zB_of 965 (by decide +kernel) rfl), (zB_of 34 (by decide +kernel) rfl), i_X11, co_X11_number, pl_X11_number⟩
theorem m_X11_200 : zLV RX11 200 yX11_later cX11_later 2 (some .boolean) 0 := ⟨(zB_of 967 (by decide +kernel) rfl), (zB_of 969 (by decide +kernel) rfl), (zB_of 35 (by decide +kernel) rfl), i_X11, co_X11_later, pl_X11_later⟩
theorem m_L_107 : zLV RL 107 yX11_told cX11_told 2 (some .long) 1 := ⟨(zB_of 971 (by decide +kernel) rfl), (zB_of 972 (by decide +kernel) rfl), (zB_of 973 (by decide +kernel) rfl), i_X11, co_X11_told, pl_X11_told⟩
theorem m_X11_212 : zLV RX11 212 yX11_alike cX11_alike 2 (some .int) 0 := ⟨(zB_of 976 (by decide +kernel) rfl), (zB_of 978 (by decide +kernel) rfl), (zB_of 36 (by decide +kernel) rfl), i_X11, co_X11_alike, pl_X11_alike⟩
theorem m_X11_215 : zLV RX11 215 yX11_tells cX11_tells 3 (some .boolean) 0 := ⟨(zB_of 980 (by decide +kernel) rfl), (zB_of 982 (by decide +kernel) rfl), (zB_of 37 (by decide +kernel) rfl), i_X11, co_X11_tells, pl_X11_tells⟩
theorem m_X11_218 : zLV RX11 218 yX11_fits cX11_fits 1 (some .boolean) 0 := ⟨(zB_of 984 (by decide +kernel) rfl), (zB_of 986 (by decide +kernel) rfl), (zB_of 38 (by decide +kernel) rfl), i_X11, co_X11_fits, pl_X11_fits⟩
theorem m_L_71 : zLV RL 71 yX11_note cX11_note 1 (some .int) 0 := ⟨(zB_of 990 (by decide +kernel) rfl), (zB_of 991 (by decide +kernel) rfl), (zB_of 992 (by decide +kernel) rfl), i_X11, co_X11_note, pl_X11_note⟩
theorem m_X11_230 : zLV RX11 230 yX11_isNoted cX11_isNoted 7 (some .boolean) 2 := ⟨(zB_of 994 (by decide +kernel) rfl), (zB_of 996 (by decide +kernel) rfl), (zB_of 39 (by decide +kernel) rfl), i_X11, co_X11_isNoted, pl_X11_isNoted⟩
theorem m_X11_221 : zLV RX11 221 yX11_upOf cX11_upOf 2 (some .int) 1 := ⟨(zB_of 998 (by decide +kernel) rfl), (zB_of 1000 (by decide +kernel) rfl), (zB_of 40 (by decide +kernel) rfl), i_X11, co_X11_upOf, pl_X11_upOf⟩
theorem m_X11_224 : zLV RX11 224 yX11_lowOf cX11_lowOf 2 (some .int) 1 := ⟨(zB_of 1002 (by decide +kernel) rfl), (zB_of 1004 (by decide +kernel) rfl), (zB_of 41 (by decide +kernel) rfl), i_X11, co_X11_lowOf, pl_X11_lowOf⟩
theorem m_X11_227 : zLV RX11 227 yX11_placeOf cX11_placeOf 4 (some .int) 1 := ⟨(zB_of 1006 (by decide +kernel) rfl), (zB_of 1008 (by decide +kernel) rfl), (zB_of 42 (by decide +kernel) rfl), i_X11, co_X11_placeOf, pl_X11_placeOf⟩
theorem m_L_75 : zLV RL 75 yX11_strike cX11_strike 4 (some .int) 1 := ⟨(zB_of 1010 (by decide +kernel) rfl), (zB_of 1011 (by decide +kernel) rfl), (zB_of 1012 (by decide +kernel) rfl), i_X11, co_X11_strike, pl_X11_strike⟩
theorem m_X11_233 : zLV RX11 233 yX11_at cX11_at 4 (some .int) 1 := ⟨(zB_of 1014 (by decide +kernel) rfl), (zB_of 1016 (by decide +kernel) rfl), (zB_of 43 (by decide +kernel) rfl), i_X11, co_X11_at, pl_X11_at⟩
theorem m_L_79 : zLV RL 79 yX11_strikeAll cX11_strikeAll 2 (some .int) 0 := ⟨(zB_of 1018 (by decide +kernel) rfl), (zB_of 1019 (by decide +kernel) rfl), (zB_of 1020 (by decide +kernel) rfl), i_X11, co_X11_strikeAll, pl_X11_strikeAll⟩
theorem m_L_83 : zLV RL 83 yX11_noteOf cX11_noteOf 4 (some .int) 2 := ⟨(zB_of 1022 (by decide +kernel) rfl), (zB_of 1023 (by decide +kernel) rfl), (zB_of 1024 (by decide +kernel) rfl), i_X11, co_X11_noteOf, pl_X11_noteOf⟩
theorem m_X11_238 : zLV RX11 238 yX11_isConvergent cX11_isConvergent 6 (some .boolean) 2 := ⟨(zB_of 1027 (by decide +kernel) rfl), (zB_of 1029 (by decide +kernel) rfl), (zB_of 44 (by decide +kernel) rfl), i_X11, co_X11_isConvergent, pl_X11_isConvergent⟩
theorem m_L_87 : zLV RL 87 yX11_count cX11_count 2 (some .int) 1 := ⟨(zB_of 1031 (by decide +kernel) rfl), (zB_of 1032 (by decide +kernel) rfl), (zB_of 1033 (by decide +kernel) rfl), i_X11, co_X11_count, pl_X11_count⟩
theorem m_X11_241 : zLV RX11 241 yX11_aboveOnes cX11_aboveOnes 3 (some .int) 0 := ⟨(zB_of 1035 (by decide +kernel) rfl), (zB_of 1037 (by decide +kernel) rfl), (zB_of 45 (by decide +kernel) rfl), i_X11, co_X11_aboveOnes, pl_X11_aboveOnes⟩
theorem m_L_91 : zLV RL 91 yX11_undo cX11_undo 2 (some .int) 0 := ⟨(zB_of 1039 (by decide +kernel) rfl), (zB_of 1040 (by decide +kernel) rfl), (zB_of 1041 (by decide +kernel) rfl), i_X11, co_X11_undo, pl_X11_undo⟩
theorem m_L_95 : zLV RL 95 yX11_type cX11_type 2 (some .int) 1 := ⟨(zB_of 1043 (by decide +kernel) rfl), (zB_of 1044 (by decide +kernel) rfl), (zB_of 1045 (by decide +kernel) rfl), i_X11, co_X11_type, pl_X11_type⟩
theorem m_L_99 : zLV RL 99 yX11_clearText cX11_clearText 2 (some .int) 0 := ⟨(zB_of 1049 (by decide +kernel) rfl), (zB_of 1050 (by decide +kernel) rfl), (zB_of 1051 (by decide +kernel) rfl), i_X11, co_X11_clearText, pl_X11_clearText⟩
