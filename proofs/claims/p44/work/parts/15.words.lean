/-! THE METHODS AS DATA, AND WHAT THE TABLES SAY OF EACH POOL ENTRY THAT IS USED (by program, wip/gen/mkwords.py). -/
abbrev MX0_init : MI := (yX0_init, cX0_init, 3, none, [])
abbrev MX0_applyToOne : MI := (yX0_applyToOne, cX0_applyToOne, 3, none, [])
abbrev MX0_applyToTwo : MI := (yX0_applyToTwo, cX0_applyToTwo, 5, none, [])
abbrev MX0_addAll : MI := (yX0_addAll, cX0_addAll, 3, none, [])
abbrev MX0_keepAll : MI := (yX0_keepAll, cX0_keepAll, 3, none, [])
abbrev MX0_removeAll : MI := (yX0_removeAll, cX0_removeAll, 3, none, [])
abbrev MX0_keepMaximal : MI := (yX0_keepMaximal, cX0_keepMaximal, 3, none, [])
abbrev MX0_keepMinimal : MI := (yX0_keepMinimal, cX0_keepMinimal, 3, none, [])
abbrev MX0_hit : MI := (yX0_hit, cX0_hit, 3, none, [])
abbrev MX0_pair : MI := (yX0_pair, cX0_pair, 8, none, [])
abbrev MX0_countPairs : MI := (yX0_countPairs, cX0_countPairs, 7, none, [])
abbrev MX0_spread : MI := (yX0_spread, cX0_spread, 5, none, [])
abbrev MX0_sumSubsets : MI := (yX0_sumSubsets, cX0_sumSubsets, 5, none, [])
abbrev MX0_divide : MI := (yX0_divide, cX0_divide, 7, (some .int), [])
abbrev MX0_hasAllWith : MI := (yX0_hasAllWith, cX0_hasAllWith, 5, (some .boolean), [])
abbrev MX0_removeProducts : MI := (yX0_removeProducts, cX0_removeProducts, 6, none, [])
abbrev MX1_init : MI := (yX1_init, cX1_init, 1, none, [])
abbrev MX2_init : MI := (yX2_init, cX2_init, 1, none, [])
abbrev MX3_init : MI := (yX3_init, cX3_init, 2, none, [])
abbrev MX3_visit : MI := (yX3_visit, cX3_visit, 9, (some .int), [])
abbrev MX3_mark : MI := (yX3_mark, cX3_mark, 5, (some .int), [])
abbrev MX3_numberOf : MI := (yX3_numberOf, cX3_numberOf, 7, (some .int), [])
abbrev MX3_placeOf : MI := (yX3_placeOf, cX3_placeOf, 7, (some .int), [])
abbrev MX3_enlarge : MI := (yX3_enlarge, cX3_enlarge, 3, none, [])
abbrev MX4_init : MI := (yX4_init, cX4_init, 4, none, [])
abbrev MX6_init : MI := (yX6_init, cX6_init, 1, none, [])
abbrev MX7_has : MI := (yX7_has, cX7_has, 2, (some .boolean), [])
abbrev MX7_put : MI := (yX7_put, cX7_put, 2, none, [])
abbrev MX7_remove : MI := (yX7_remove, cX7_remove, 2, none, [])
abbrev MX7_copy : MI := (yX7_copy, cX7_copy, 2, none, [])
abbrev MX7_size : MI := (yX7_size, cX7_size, 3, (some .int), [])
abbrev MX7_isInside : MI := (yX7_isInside, cX7_isInside, 3, (some .boolean), [])
abbrev MX7_span : MI := (yX7_span, cX7_span, 3, (some .int), [])
abbrev MX7_list : MI := (yX7_list, cX7_list, 7, (some .int), [])
abbrev MX7_takeOut : MI := (yX7_takeOut, cX7_takeOut, 5, none, [])
abbrev MX7_putIn : MI := (yX7_putIn, cX7_putIn, 5, none, [])
abbrev MX7_swap : MI := (yX7_swap, cX7_swap, 6, none, [])
abbrev MX7_lower : MI := (yX7_lower, cX7_lower, 2, none, [])
abbrev MX7_raise : MI := (yX7_raise, cX7_raise, 2, none, [])
abbrev MX8_init : MI := (yX8_init, cX8_init, 1, none, [])
abbrev MX8_single : MI := (yX8_single, cX8_single, 3, (some .int), [])
abbrev MX8_subsetsOf : MI := (yX8_subsetsOf, cX8_subsetsOf, 5, (some .int), [])
abbrev MX8_release : MI := (yX8_release, cX8_release, 3, (some .int), [])
abbrev MX8_checkMask : MI := (yX8_checkMask, cX8_checkMask, 2, none, [])
abbrev MX8_checkCreated : MI := (yX8_checkCreated, cX8_checkCreated, 2, none, [])
abbrev MX8_checkRoom : MI := (yX8_checkRoom, cX8_checkRoom, 1, none, [])
abbrev MX8_familyOf : MI := (yX8_familyOf, cX8_familyOf, 3, (some (.object "FamilyStore$Family")), [])
abbrev MX8_addFamily : MI := (yX8_addFamily, cX8_addFamily, 2, (some .int), [])
abbrev MX8_union : MI := (yX8_union, cX8_union, 3, (some .int), [])
abbrev MX8_intersection : MI := (yX8_intersection, cX8_intersection, 3, (some .int), [])
abbrev MX8_difference : MI := (yX8_difference, cX8_difference, 3, (some .int), [])
abbrev MX8_join : MI := (yX8_join, cX8_join, 3, (some .int), [])
abbrev MX8_quotient : MI := (yX8_quotient, cX8_quotient, 3, (some .int), [])
abbrev MX8_remainder : MI := (yX8_remainder, cX8_remainder, 3, (some .int), [])
abbrev MX8_maximal : MI := (yX8_maximal, cX8_maximal, 2, (some .int), [])
abbrev MX8_minimal : MI := (yX8_minimal, cX8_minimal, 2, (some .int), [])
abbrev MX8_hitting : MI := (yX8_hitting, cX8_hitting, 2, (some .int), [])
abbrev MX8_addOfOne : MI := (yX8_addOfOne, cX8_addOfOne, 5, (some .int), [])
abbrev MX8_addOfTwo : MI := (yX8_addOfTwo, cX8_addOfTwo, 7, (some .int), [])
abbrev MX8_count : MI := (yX8_count, cX8_count, 2, (some .int), [])
abbrev MX8_contains : MI := (yX8_contains, cX8_contains, 3, (some .boolean), [])
abbrev MX8_areEqual : MI := (yX8_areEqual, cX8_areEqual, 5, (some .boolean), [])
abbrev MJ6_numberOfLeadingZeros_0f7a4 : MI := (yJ6_numberOfLeadingZeros_0f7a4, cJ6_numberOfLeadingZeros_0f7a4, 2, (some .int), [])
abbrev MJ6_numberOfTrailingZeros_0f7a4 : MI := (yJ6_numberOfTrailingZeros_0f7a4, cJ6_numberOfTrailingZeros_0f7a4, 2, (some .int), [])
abbrev MJ6_bitCount_0f7a4 : MI := (yJ6_bitCount_0f7a4, cJ6_bitCount_0f7a4, 1, (some .int), [])
abbrev MJ13_numberOfLeadingZeros_95d88 : MI := (yJ13_numberOfLeadingZeros_95d88, cJ13_numberOfLeadingZeros_95d88, 3, (some .int), [])
abbrev MJ13_numberOfTrailingZeros_95d88 : MI := (yJ13_numberOfTrailingZeros_95d88, cJ13_numberOfTrailingZeros_95d88, 3, (some .int), [])
abbrev MJ13_bitCount_95d88 : MI := (yJ13_bitCount_95d88, cJ13_bitCount_95d88, 2, (some .int), [])
abbrev MJ9_max_7cf53 : MI := (yJ9_max_7cf53, cJ9_max_7cf53, 2, (some .int), [])
abbrev MJ9_min_7cf53 : MI := (yJ9_min_7cf53, cJ9_min_7cf53, 2, (some .int), [])
abbrev MJ7_fill_d0a16 : MI := (yJ7_fill_d0a16, cJ7_fill_d0a16, 5, none, [])
abbrev MJ7_copyOf_59c91 : MI := (yJ7_copyOf_59c91, cJ7_copyOf_59c91, 3, (some (.array .int)), [])
abbrev MJ7_copyOf_c38d5 : MI := (yJ7_copyOf_c38d5, cJ7_copyOf_c38d5, 3, (some (.array .long)), [])
abbrev ML_below : MI := (yL_below, cL_below, 2, (some .int), [])
abbrev ML_cell : MI := (yL_cell, cL_cell, 2, (some .int), [])
abbrev ML_has : MI := (yL_has, cL_has, 3, (some .boolean), [])
abbrev ML_choose : MI := (yL_choose, cL_choose, 6, (some .long), [])
abbrev ML_make : MI := (yL_make, cL_make, 5, (some .int), [])
abbrev ML_is : MI := (yL_is, cL_is, 5, (some .boolean), [])
abbrev ML_join : MI := (yL_join, cL_join, 8, (some .long), [])
abbrev ML_quotient : MI := (yL_quotient, cL_quotient, 9, (some .long), [])
abbrev ML_extreme : MI := (yL_extreme, cL_extreme, 8, (some .long), [])
abbrev ML_hitting : MI := (yL_hitting, cL_hitting, 7, (some .long), [])
theorem ins_X0 : Cond.instantiable RX0 4 ∈ AW := aw_of (i := 54) (by decide +kernel) (by decide +kernel)
theorem ini_RX0 : Cond.initialized RX0 ∈ AW := aw_of (i := 22) (by decide +kernel) (by decide +kernel)
theorem lay_X0 : ∀ w ∈ u_ws RX0 TX0 4, w ∈ AW := by
  have h : ((u_ws RX0 TX0 4).all fun w => lw_tbl.contains w && goodWord w) = true := by decide +kernel
  intro w hw
  have h2 := List.all_eq_true.mp h w hw
  rw [Bool.and_eq_true] at h2
  exact List.mem_filter.mpr ⟨List.contains_iff_mem.mp h2.1, h2.2⟩
theorem cls_0 : CLS 0 RX0 TX0 4 tyX0 := ⟨rfl, lay_X0, tyX0_ok, nmX0, rfl, by decide, by decide +kernel, ins_X0, ini_RX0, by decide +kernel⟩
theorem ins_X1 : Cond.instantiable RX1 2 ∈ AW := aw_of (i := 145) (by decide +kernel) (by decide +kernel)
theorem ini_RX1 : Cond.initialized RX1 ∈ AW := aw_of (i := 25) (by decide +kernel) (by decide +kernel)
theorem lay_X1 : ∀ w ∈ u_ws RX1 TX1 2, w ∈ AW := by
  have h : ((u_ws RX1 TX1 2).all fun w => lw_tbl.contains w && goodWord w) = true := by decide +kernel
  intro w hw
  have h2 := List.all_eq_true.mp h w hw
  rw [Bool.and_eq_true] at h2
  exact List.mem_filter.mpr ⟨List.contains_iff_mem.mp h2.1, h2.2⟩
theorem cls_1 : CLS 1 RX1 TX1 2 tyX1 := ⟨rfl, lay_X1, tyX1_ok, nmX1, rfl, by decide, by decide +kernel, ins_X1, ini_RX1, by decide +kernel⟩
theorem ins_X2 : Cond.instantiable RX2 3 ∈ AW := aw_of (i := 160) (by decide +kernel) (by decide +kernel)
theorem ini_RX2 : Cond.initialized RX2 ∈ AW := aw_of (i := 26) (by decide +kernel) (by decide +kernel)
theorem lay_X2 : ∀ w ∈ u_ws RX2 TX2 3, w ∈ AW := by
  have h : ((u_ws RX2 TX2 3).all fun w => lw_tbl.contains w && goodWord w) = true := by decide +kernel
  intro w hw
  have h2 := List.all_eq_true.mp h w hw
  rw [Bool.and_eq_true] at h2
  exact List.mem_filter.mpr ⟨List.contains_iff_mem.mp h2.1, h2.2⟩
theorem cls_2 : CLS 2 RX2 TX2 3 tyX2 := ⟨rfl, lay_X2, tyX2_ok, nmX2, rfl, by decide, by decide +kernel, ins_X2, ini_RX2, by decide +kernel⟩
theorem ins_X3 : Cond.instantiable RX3 8 ∈ AW := aw_of (i := 76) (by decide +kernel) (by decide +kernel)
theorem ini_RX3 : Cond.initialized RX3 ∈ AW := aw_of (i := 23) (by decide +kernel) (by decide +kernel)
theorem lay_X3 : ∀ w ∈ u_ws RX3 TX3 8, w ∈ AW := by
  have h : ((u_ws RX3 TX3 8).all fun w => lw_tbl.contains w && goodWord w) = true := by decide +kernel
  intro w hw
  have h2 := List.all_eq_true.mp h w hw
  rw [Bool.and_eq_true] at h2
  exact List.mem_filter.mpr ⟨List.contains_iff_mem.mp h2.1, h2.2⟩
theorem cls_3 : CLS 3 RX3 TX3 8 tyX3 := ⟨rfl, lay_X3, tyX3_ok, nmX3, rfl, by decide, by decide +kernel, ins_X3, ini_RX3, by decide +kernel⟩
theorem ins_X4 : Cond.instantiable RX4 3 ∈ AW := aw_of (i := 326) (by decide +kernel) (by decide +kernel)
theorem ini_RX4 : Cond.initialized RX4 ∈ AW := aw_of (i := 35) (by decide +kernel) (by decide +kernel)
theorem lay_X4 : ∀ w ∈ u_ws RX4 TX4 3, w ∈ AW := by
  have h : ((u_ws RX4 TX4 3).all fun w => lw_tbl.contains w && goodWord w) = true := by decide +kernel
  intro w hw
  have h2 := List.all_eq_true.mp h w hw
  rw [Bool.and_eq_true] at h2
  exact List.mem_filter.mpr ⟨List.contains_iff_mem.mp h2.1, h2.2⟩
theorem cls_4 : CLS 4 RX4 TX4 3 tyX4 := ⟨rfl, lay_X4, tyX4_ok, nmX4, rfl, by decide, by decide +kernel, ins_X4, ini_RX4, by decide +kernel⟩
theorem ins_X6 : Cond.instantiable RX6 10 ∈ AW := aw_of (i := 107) (by decide +kernel) (by decide +kernel)
theorem ini_RX6 : Cond.initialized RX6 ∈ AW := aw_of (i := 24) (by decide +kernel) (by decide +kernel)
theorem lay_X6 : ∀ w ∈ u_ws RX6 TX6 10, w ∈ AW := by
  have h : ((u_ws RX6 TX6 10).all fun w => lw_tbl.contains w && goodWord w) = true := by decide +kernel
  intro w hw
  have h2 := List.all_eq_true.mp h w hw
  rw [Bool.and_eq_true] at h2
  exact List.mem_filter.mpr ⟨List.contains_iff_mem.mp h2.1, h2.2⟩
theorem cls_5 : CLS 5 RX6 TX6 10 tyX6 := ⟨rfl, lay_X6, tyX6_ok, nmX6, rfl, by decide, by decide +kernel, ins_X6, ini_RX6, by decide +kernel⟩
theorem ins_X8 : Cond.instantiable RX8 17 ∈ AW := aw_of (i := 44) (by decide +kernel) (by decide +kernel)
theorem ini_RX8 : Cond.initialized RX8 ∈ AW := aw_of (i := 21) (by decide +kernel) (by decide +kernel)
theorem lay_X8 : ∀ w ∈ u_ws RX8 TX8 17, w ∈ AW := by
  have h : ((u_ws RX8 TX8 17).all fun w => lw_tbl.contains w && goodWord w) = true := by decide +kernel
  intro w hw
  have h2 := List.all_eq_true.mp h w hw
  rw [Bool.and_eq_true] at h2
  exact List.mem_filter.mpr ⟨List.contains_iff_mem.mp h2.1, h2.2⟩
theorem cls_6 : CLS 6 RX8 TX8 17 tyX8 := ⟨rfl, lay_X8, tyX8_ok, nmX8, rfl, by decide, by decide +kernel, ins_X8, ini_RX8, by decide +kernel⟩
theorem aw_ml_X0_3 : Cond.methodLink RX0 3 Lib.objectInit ∈ AW := aw_of (i := 58) (by decide +kernel) (by decide +kernel)
theorem aw_io : Cond.instanceMethod Lib.objectInit ∈ AW := aw_of (i := 49) (by decide +kernel) (by decide +kernel)
theorem aw_co : Cond.code Lib.objectInit ⟨#[0xb1]⟩ 1 none ∈ AW := aw_of (i := 50) (by decide +kernel) (by decide +kernel)
theorem oi_X0_3 : OBI RX0 3 := ⟨aw_ml_X0_3, aw_io, aw_co⟩
theorem ac_long : Cond.arrayClass .long ∈ AW := aw_of (i := 74) (by decide +kernel) (by decide +kernel)
theorem aw_fl_X0_9 : Cond.fieldLink RX0 9 RX0 (TX0 2).2.1 (TX0 2).2.2.1 ∈ AW := aw_of (i := 61) (by decide +kernel) (by decide +kernel)
theorem ff_X0_9 : FLF RX0 9 0 2 := ⟨_, _, _, _, cls_0, by decide, aw_fl_X0_9, by decide +kernel, rfl⟩
theorem aw_fl_X0_15 : Cond.fieldLink RX0 15 RX0 (TX0 3).2.1 (TX0 3).2.2.1 ∈ AW := aw_of (i := 62) (by decide +kernel) (by decide +kernel)
theorem ff_X0_15 : FLF RX0 15 0 3 := ⟨_, _, _, _, cls_0, by decide, aw_fl_X0_15, by decide +kernel, rfl⟩
theorem aw_fl_X0_18 : Cond.fieldLink RX0 18 RX0 (TX0 0).2.1 (TX0 0).2.2.1 ∈ AW := aw_of (i := 59) (by decide +kernel) (by decide +kernel)
theorem ff_X0_18 : FLF RX0 18 0 0 := ⟨_, _, _, _, cls_0, by decide, aw_fl_X0_18, by decide +kernel, rfl⟩
theorem aw_fl_X0_22 : Cond.fieldLink RX0 22 RX0 (TX0 1).2.1 (TX0 1).2.2.1 ∈ AW := aw_of (i := 60) (by decide +kernel) (by decide +kernel)
theorem ff_X0_22 : FLF RX0 22 0 1 := ⟨_, _, _, _, cls_0, by decide, aw_fl_X0_22, by decide +kernel, rfl⟩
theorem wd_X0_keepMaximal : wdM MX0_keepMaximal ∈ AW := aw_of (i := 592) (by decide +kernel) (by decide +kernel)
theorem aw_ml_X0_25 : Cond.methodLink RX0 25 yX0_keepMaximal ∈ AW := aw_of (i := 589) (by decide +kernel) (by decide +kernel)
theorem im_X0_keepMaximal : Cond.instanceMethod yX0_keepMaximal ∈ AW := aw_of (i := 591) (by decide +kernel) (by decide +kernel)
theorem se_X0_keepMaximal : Cond.selects RX0 yX0_keepMaximal yX0_keepMaximal ∈ AW := aw_of (i := 17) (by decide +kernel) (by decide +kernel)
theorem lk_X0_25 : LKV RX0 25 MX0_keepMaximal 1 0 := ⟨⟨aw_ml_X0_25, wd_X0_keepMaximal, ini_RX0, by decide +kernel, by decide +kernel, by decide⟩, im_X0_keepMaximal, _, _, _, _, cls_0, se_X0_keepMaximal⟩
theorem wd_X0_keepMinimal : wdM MX0_keepMinimal ∈ AW := aw_of (i := 597) (by decide +kernel) (by decide +kernel)
theorem aw_ml_X0_29 : Cond.methodLink RX0 29 yX0_keepMinimal ∈ AW := aw_of (i := 594) (by decide +kernel) (by decide +kernel)
theorem im_X0_keepMinimal : Cond.instanceMethod yX0_keepMinimal ∈ AW := aw_of (i := 596) (by decide +kernel) (by decide +kernel)
theorem se_X0_keepMinimal : Cond.selects RX0 yX0_keepMinimal yX0_keepMinimal ∈ AW := aw_of (i := 18) (by decide +kernel) (by decide +kernel)
theorem lk_X0_29 : LKV RX0 29 MX0_keepMinimal 1 0 := ⟨⟨aw_ml_X0_29, wd_X0_keepMinimal, ini_RX0, by decide +kernel, by decide +kernel, by decide⟩, im_X0_keepMinimal, _, _, _, _, cls_0, se_X0_keepMinimal⟩
theorem wd_X0_hit : wdM MX0_hit ∈ AW := aw_of (i := 602) (by decide +kernel) (by decide +kernel)
theorem aw_ml_X0_32 : Cond.methodLink RX0 32 yX0_hit ∈ AW := aw_of (i := 599) (by decide +kernel) (by decide +kernel)
theorem im_X0_hit : Cond.instanceMethod yX0_hit ∈ AW := aw_of (i := 601) (by decide +kernel) (by decide +kernel)
theorem se_X0_hit : Cond.selects RX0 yX0_hit yX0_hit ∈ AW := aw_of (i := 19) (by decide +kernel) (by decide +kernel)
theorem lk_X0_32 : LKV RX0 32 MX0_hit 1 0 := ⟨⟨aw_ml_X0_32, wd_X0_hit, ini_RX0, by decide +kernel, by decide +kernel, by decide⟩, im_X0_hit, _, _, _, _, cls_0, se_X0_hit⟩
theorem wd_X7_lower : wdM MX7_lower ∈ AW := aw_of (i := 553) (by decide +kernel) (by decide +kernel)
theorem ini_RX7 : Cond.initialized RX7 ∈ AW := aw_of (i := 34) (by decide +kernel) (by decide +kernel)
theorem aw_ml_X0_35 : Cond.methodLink RX0 35 yX7_lower ∈ AW := aw_of (i := 551) (by decide +kernel) (by decide +kernel)
theorem sm_X7_lower : Cond.static yX7_lower ∈ AW := aw_of (i := 552) (by decide +kernel) (by decide +kernel)
theorem lk_X0_35 : LKS RX0 35 MX7_lower 1 := ⟨⟨aw_ml_X0_35, wd_X7_lower, ini_RX7, by decide +kernel, by decide +kernel, by decide⟩, sm_X7_lower⟩
theorem wd_X0_addAll : wdM MX0_addAll ∈ AW := aw_of (i := 482) (by decide +kernel) (by decide +kernel)
theorem aw_ml_X0_40 : Cond.methodLink RX0 40 yX0_addAll ∈ AW := aw_of (i := 480) (by decide +kernel) (by decide +kernel)
theorem sm_X0_addAll : Cond.static yX0_addAll ∈ AW := aw_of (i := 481) (by decide +kernel) (by decide +kernel)
theorem lk_X0_40 : LKS RX0 40 MX0_addAll 2 := ⟨⟨aw_ml_X0_40, wd_X0_addAll, ini_RX0, by decide +kernel, by decide +kernel, by decide⟩, sm_X0_addAll⟩
theorem wd_X0_keepAll : wdM MX0_keepAll ∈ AW := aw_of (i := 485) (by decide +kernel) (by decide +kernel)
theorem aw_ml_X0_44 : Cond.methodLink RX0 44 yX0_keepAll ∈ AW := aw_of (i := 483) (by decide +kernel) (by decide +kernel)
theorem sm_X0_keepAll : Cond.static yX0_keepAll ∈ AW := aw_of (i := 484) (by decide +kernel) (by decide +kernel)
theorem lk_X0_44 : LKS RX0 44 MX0_keepAll 2 := ⟨⟨aw_ml_X0_44, wd_X0_keepAll, ini_RX0, by decide +kernel, by decide +kernel, by decide⟩, sm_X0_keepAll⟩
theorem wd_X0_removeAll : wdM MX0_removeAll ∈ AW := aw_of (i := 488) (by decide +kernel) (by decide +kernel)
theorem aw_ml_X0_47 : Cond.methodLink RX0 47 yX0_removeAll ∈ AW := aw_of (i := 486) (by decide +kernel) (by decide +kernel)
theorem sm_X0_removeAll : Cond.static yX0_removeAll ∈ AW := aw_of (i := 487) (by decide +kernel) (by decide +kernel)
theorem lk_X0_47 : LKS RX0 47 MX0_removeAll 2 := ⟨⟨aw_ml_X0_47, wd_X0_removeAll, ini_RX0, by decide +kernel, by decide +kernel, by decide⟩, sm_X0_removeAll⟩
theorem wd_X0_pair : wdM MX0_pair ∈ AW := aw_of (i := 493) (by decide +kernel) (by decide +kernel)
theorem aw_ml_X0_50 : Cond.methodLink RX0 50 yX0_pair ∈ AW := aw_of (i := 490) (by decide +kernel) (by decide +kernel)
theorem im_X0_pair : Cond.instanceMethod yX0_pair ∈ AW := aw_of (i := 492) (by decide +kernel) (by decide +kernel)
theorem se_X0_pair : Cond.selects RX0 yX0_pair yX0_pair ∈ AW := aw_of (i := 11) (by decide +kernel) (by decide +kernel)
theorem lk_X0_50 : LKV RX0 50 MX0_pair 3 0 := ⟨⟨aw_ml_X0_50, wd_X0_pair, ini_RX0, by decide +kernel, by decide +kernel, by decide⟩, im_X0_pair, _, _, _, _, cls_0, se_X0_pair⟩
theorem wd_X0_divide : wdM MX0_divide ∈ AW := aw_of (i := 526) (by decide +kernel) (by decide +kernel)
theorem aw_ml_X0_54 : Cond.methodLink RX0 54 yX0_divide ∈ AW := aw_of (i := 523) (by decide +kernel) (by decide +kernel)
theorem im_X0_divide : Cond.instanceMethod yX0_divide ∈ AW := aw_of (i := 525) (by decide +kernel) (by decide +kernel)
theorem se_X0_divide : Cond.selects RX0 yX0_divide yX0_divide ∈ AW := aw_of (i := 13) (by decide +kernel) (by decide +kernel)
theorem lk_X0_54 : LKV RX0 54 MX0_divide 2 0 := ⟨⟨aw_ml_X0_54, wd_X0_divide, ini_RX0, by decide +kernel, by decide +kernel, by decide⟩, im_X0_divide, _, _, _, _, cls_0, se_X0_divide⟩
theorem fl_X0_9 : FL RX0 9 0 2 := ⟨_, _, _, _, cls_0, by decide, aw_fl_X0_9⟩
theorem wd_X7_copy : wdM MX7_copy ∈ AW := aw_of (i := 533) (by decide +kernel) (by decide +kernel)
theorem aw_ml_X0_58 : Cond.methodLink RX0 58 yX7_copy ∈ AW := aw_of (i := 531) (by decide +kernel) (by decide +kernel)
theorem sm_X7_copy : Cond.static yX7_copy ∈ AW := aw_of (i := 532) (by decide +kernel) (by decide +kernel)
theorem lk_X0_58 : LKS RX0 58 MX7_copy 2 := ⟨⟨aw_ml_X0_58, wd_X7_copy, ini_RX7, by decide +kernel, by decide +kernel, by decide⟩, sm_X7_copy⟩
theorem wd_X0_removeProducts : wdM MX0_removeProducts ∈ AW := aw_of (i := 538) (by decide +kernel) (by decide +kernel)
theorem aw_ml_X0_61 : Cond.methodLink RX0 61 yX0_removeProducts ∈ AW := aw_of (i := 535) (by decide +kernel) (by decide +kernel)
theorem im_X0_removeProducts : Cond.instanceMethod yX0_removeProducts ∈ AW := aw_of (i := 537) (by decide +kernel) (by decide +kernel)
theorem se_X0_removeProducts : Cond.selects RX0 yX0_removeProducts yX0_removeProducts ∈ AW := aw_of (i := 15) (by decide +kernel) (by decide +kernel)
theorem lk_X0_61 : LKV RX0 61 MX0_removeProducts 2 0 := ⟨⟨aw_ml_X0_61, wd_X0_removeProducts, ini_RX0, by decide +kernel, by decide +kernel, by decide⟩, im_X0_removeProducts, _, _, _, _, cls_0, se_X0_removeProducts⟩
theorem wd_X7_raise : wdM MX7_raise ∈ AW := aw_of (i := 545) (by decide +kernel) (by decide +kernel)
theorem aw_ml_X0_65 : Cond.methodLink RX0 65 yX7_raise ∈ AW := aw_of (i := 543) (by decide +kernel) (by decide +kernel)
theorem sm_X7_raise : Cond.static yX7_raise ∈ AW := aw_of (i := 544) (by decide +kernel) (by decide +kernel)
theorem lk_X0_65 : LKS RX0 65 MX7_raise 1 := ⟨⟨aw_ml_X0_65, wd_X7_raise, ini_RX7, by decide +kernel, by decide +kernel, by decide⟩, sm_X7_raise⟩
theorem k_X0_68 : Cond.constantLong RX0 68 (-1) ∈ AW := aw_of (i := 489) (by decide +kernel) (by decide +kernel)
theorem fl_X0_15 : FL RX0 15 0 3 := ⟨_, _, _, _, cls_0, by decide, aw_fl_X0_15⟩
theorem wd_J7_fill_d0a16 : wdM MJ7_fill_d0a16 ∈ AW := aw_of (i := 521) (by decide +kernel) (by decide +kernel)
theorem ini_RJ7 : Cond.initialized RJ7 ∈ AW := aw_of (i := 37) (by decide +kernel) (by decide +kernel)
theorem aw_ml_X0_70 : Cond.methodLink RX0 70 yJ7_fill_d0a16 ∈ AW := aw_of (i := 519) (by decide +kernel) (by decide +kernel)
theorem sm_J7_fill_d0a16 : Cond.static yJ7_fill_d0a16 ∈ AW := aw_of (i := 520) (by decide +kernel) (by decide +kernel)
theorem lk_X0_70 : LKS RX0 70 MJ7_fill_d0a16 2 := ⟨⟨aw_ml_X0_70, wd_J7_fill_d0a16, ini_RJ7, by decide +kernel, by decide +kernel, by decide⟩, sm_J7_fill_d0a16⟩
theorem wd_X7_takeOut : wdM MX7_takeOut ∈ AW := aw_of (i := 556) (by decide +kernel) (by decide +kernel)
theorem aw_ml_X0_76 : Cond.methodLink RX0 76 yX7_takeOut ∈ AW := aw_of (i := 593) (by decide +kernel) (by decide +kernel)
theorem sm_X7_takeOut : Cond.static yX7_takeOut ∈ AW := aw_of (i := 555) (by decide +kernel) (by decide +kernel)
theorem lk_X0_76 : LKS RX0 76 MX7_takeOut 3 := ⟨⟨aw_ml_X0_76, wd_X7_takeOut, ini_RX7, by decide +kernel, by decide +kernel, by decide⟩, sm_X7_takeOut⟩
theorem wd_X7_putIn : wdM MX7_putIn ∈ AW := aw_of (i := 548) (by decide +kernel) (by decide +kernel)
theorem aw_ml_X0_80 : Cond.methodLink RX0 80 yX7_putIn ∈ AW := aw_of (i := 598) (by decide +kernel) (by decide +kernel)
theorem sm_X7_putIn : Cond.static yX7_putIn ∈ AW := aw_of (i := 547) (by decide +kernel) (by decide +kernel)
theorem lk_X0_80 : LKS RX0 80 MX7_putIn 3 := ⟨⟨aw_ml_X0_80, wd_X7_putIn, ini_RX7, by decide +kernel, by decide +kernel, by decide⟩, sm_X7_putIn⟩
theorem wd_X7_swap : wdM MX7_swap ∈ AW := aw_of (i := 605) (by decide +kernel) (by decide +kernel)
theorem aw_ml_X0_83 : Cond.methodLink RX0 83 yX7_swap ∈ AW := aw_of (i := 603) (by decide +kernel) (by decide +kernel)
theorem sm_X7_swap : Cond.static yX7_swap ∈ AW := aw_of (i := 604) (by decide +kernel) (by decide +kernel)
theorem lk_X0_83 : LKS RX0 83 MX7_swap 2 := ⟨⟨aw_ml_X0_83, wd_X7_swap, ini_RX7, by decide +kernel, by decide +kernel, by decide⟩, sm_X7_swap⟩
theorem fl_X0_18 : FL RX0 18 0 0 := ⟨_, _, _, _, cls_0, by decide, aw_fl_X0_18⟩
theorem wd_X7_list : wdM MX7_list ∈ AW := aw_of (i := 496) (by decide +kernel) (by decide +kernel)
theorem aw_ml_X0_86 : Cond.methodLink RX0 86 yX7_list ∈ AW := aw_of (i := 494) (by decide +kernel) (by decide +kernel)
theorem sm_X7_list : Cond.static yX7_list ∈ AW := aw_of (i := 495) (by decide +kernel) (by decide +kernel)
theorem lk_X0_86 : LKS RX0 86 MX7_list 2 := ⟨⟨aw_ml_X0_86, wd_X7_list, ini_RX7, by decide +kernel, by decide +kernel, by decide⟩, sm_X7_list⟩
theorem fl_X0_22 : FL RX0 22 0 1 := ⟨_, _, _, _, cls_0, by decide, aw_fl_X0_22⟩
theorem k_X0_90 : Cond.constant RX0 90 32768 ∈ AW := aw_of (i := 503) (by decide +kernel) (by decide +kernel)
theorem wd_X0_countPairs : wdM MX0_countPairs ∈ AW := aw_of (i := 507) (by decide +kernel) (by decide +kernel)
theorem aw_ml_X0_91 : Cond.methodLink RX0 91 yX0_countPairs ∈ AW := aw_of (i := 504) (by decide +kernel) (by decide +kernel)
theorem im_X0_countPairs : Cond.instanceMethod yX0_countPairs ∈ AW := aw_of (i := 506) (by decide +kernel) (by decide +kernel)
theorem se_X0_countPairs : Cond.selects RX0 yX0_countPairs yX0_countPairs ∈ AW := aw_of (i := 12) (by decide +kernel) (by decide +kernel)
theorem lk_X0_91 : LKV RX0 91 MX0_countPairs 3 0 := ⟨⟨aw_ml_X0_91, wd_X0_countPairs, ini_RX0, by decide +kernel, by decide +kernel, by decide⟩, im_X0_countPairs, _, _, _, _, cls_0, se_X0_countPairs⟩
theorem wd_X7_put : wdM MX7_put ∈ AW := aw_of (i := 321) (by decide +kernel) (by decide +kernel)
theorem aw_ml_X0_94 : Cond.methodLink RX0 94 yX7_put ∈ AW := aw_of (i := 522) (by decide +kernel) (by decide +kernel)
theorem sm_X7_put : Cond.static yX7_put ∈ AW := aw_of (i := 320) (by decide +kernel) (by decide +kernel)
theorem lk_X0_94 : LKS RX0 94 MX7_put 2 := ⟨⟨aw_ml_X0_94, wd_X7_put, ini_RX7, by decide +kernel, by decide +kernel, by decide⟩, sm_X7_put⟩
theorem wd_X7_span : wdM MX7_span ∈ AW := aw_of (i := 342) (by decide +kernel) (by decide +kernel)
theorem aw_ml_X0_97 : Cond.methodLink RX0 97 yX7_span ∈ AW := aw_of (i := 508) (by decide +kernel) (by decide +kernel)
theorem sm_X7_span : Cond.static yX7_span ∈ AW := aw_of (i := 341) (by decide +kernel) (by decide +kernel)
theorem lk_X0_97 : LKS RX0 97 MX7_span 1 := ⟨⟨aw_ml_X0_97, wd_X7_span, ini_RX7, by decide +kernel, by decide +kernel, by decide⟩, sm_X7_span⟩
theorem aw_ml_X0_101 : Cond.methodLink RX0 101 Lib.Math.max.name ∈ AW := aw_of (i := 509) (by decide +kernel) (by decide +kernel)
theorem aw_smax : Cond.static Lib.Math.max.name ∈ AW := aw_of (i := 510) (by decide +kernel) (by decide +kernel)
theorem aw_im : Cond.initialized "java/lang/Math" ∈ AW := aw_of (i := 38) (by decide +kernel) (by decide +kernel)
theorem aw_cmax : Cond.code Lib.Math.max.name Lib.Math.max.code 2 (some .int) ∈ AW := aw_of (i := 511) (by decide +kernel) (by decide +kernel)
theorem mm_X0_101 : MXL RX0 101 := ⟨aw_ml_X0_101, aw_smax, aw_im, aw_cmax⟩
theorem wd_X0_spread : wdM MX0_spread ∈ AW := aw_of (i := 514) (by decide +kernel) (by decide +kernel)
theorem aw_ml_X0_107 : Cond.methodLink RX0 107 yX0_spread ∈ AW := aw_of (i := 512) (by decide +kernel) (by decide +kernel)
theorem sm_X0_spread : Cond.static yX0_spread ∈ AW := aw_of (i := 513) (by decide +kernel) (by decide +kernel)
theorem lk_X0_107 : LKS RX0 107 MX0_spread 4 := ⟨⟨aw_ml_X0_107, wd_X0_spread, ini_RX0, by decide +kernel, by decide +kernel, by decide⟩, sm_X0_spread⟩
theorem wd_X0_sumSubsets : wdM MX0_sumSubsets ∈ AW := aw_of (i := 518) (by decide +kernel) (by decide +kernel)
theorem aw_ml_X0_111 : Cond.methodLink RX0 111 yX0_sumSubsets ∈ AW := aw_of (i := 516) (by decide +kernel) (by decide +kernel)
theorem sm_X0_sumSubsets : Cond.static yX0_sumSubsets ∈ AW := aw_of (i := 517) (by decide +kernel) (by decide +kernel)
theorem lk_X0_111 : LKS RX0 111 MX0_sumSubsets 3 := ⟨⟨aw_ml_X0_111, wd_X0_sumSubsets, ini_RX0, by decide +kernel, by decide +kernel, by decide⟩, sm_X0_sumSubsets⟩
theorem wd_X7_has : wdM MX7_has ∈ AW := aw_of (i := 352) (by decide +kernel) (by decide +kernel)
theorem aw_ml_X0_115 : Cond.methodLink RX0 115 yX7_has ∈ AW := aw_of (i := 515) (by decide +kernel) (by decide +kernel)
theorem sm_X7_has : Cond.static yX7_has ∈ AW := aw_of (i := 351) (by decide +kernel) (by decide +kernel)
theorem lk_X0_115 : LKS RX0 115 MX7_has 2 := ⟨⟨aw_ml_X0_115, wd_X7_has, ini_RX7, by decide +kernel, by decide +kernel, by decide⟩, sm_X7_has⟩
theorem wd_X0_hasAllWith : wdM MX0_hasAllWith ∈ AW := aw_of (i := 530) (by decide +kernel) (by decide +kernel)
theorem aw_ml_X0_119 : Cond.methodLink RX0 119 yX0_hasAllWith ∈ AW := aw_of (i := 527) (by decide +kernel) (by decide +kernel)
theorem im_X0_hasAllWith : Cond.instanceMethod yX0_hasAllWith ∈ AW := aw_of (i := 529) (by decide +kernel) (by decide +kernel)
theorem se_X0_hasAllWith : Cond.selects RX0 yX0_hasAllWith yX0_hasAllWith ∈ AW := aw_of (i := 14) (by decide +kernel) (by decide +kernel)
theorem lk_X0_119 : LKV RX0 119 MX0_hasAllWith 3 0 := ⟨⟨aw_ml_X0_119, wd_X0_hasAllWith, ini_RX0, by decide +kernel, by decide +kernel, by decide⟩, im_X0_hasAllWith, _, _, _, _, cls_0, se_X0_hasAllWith⟩
theorem wd_X7_remove : wdM MX7_remove ∈ AW := aw_of (i := 541) (by decide +kernel) (by decide +kernel)
theorem aw_ml_X0_123 : Cond.methodLink RX0 123 yX7_remove ∈ AW := aw_of (i := 539) (by decide +kernel) (by decide +kernel)
theorem sm_X7_remove : Cond.static yX7_remove ∈ AW := aw_of (i := 540) (by decide +kernel) (by decide +kernel)
theorem lk_X0_123 : LKS RX0 123 MX7_remove 2 := ⟨⟨aw_ml_X0_123, wd_X7_remove, ini_RX7, by decide +kernel, by decide +kernel, by decide⟩, sm_X7_remove⟩
theorem aw_ml_X1_3 : Cond.methodLink RX1 3 Lib.objectInit ∈ AW := aw_of (i := 149) (by decide +kernel) (by decide +kernel)
theorem oi_X1_3 : OBI RX1 3 := ⟨aw_ml_X1_3, aw_io, aw_co⟩
theorem an_X1_11 : Cond.classLink RX1 11 (FieldType.array .long).toString ∈ AW := aw_of (i := 150) (by decide +kernel) (by decide +kernel)
theorem aw_fl_X1_13 : Cond.fieldLink RX1 13 RX1 (TX1 0).2.1 (TX1 0).2.2.1 ∈ AW := aw_of (i := 152) (by decide +kernel) (by decide +kernel)
theorem ff_X1_13 : FLF RX1 13 1 0 := ⟨_, _, _, _, cls_1, by decide, aw_fl_X1_13, by decide +kernel, rfl⟩
theorem aw_fl_X1_17 : Cond.fieldLink RX1 17 RX1 (TX1 1).2.1 (TX1 1).2.2.1 ∈ AW := aw_of (i := 153) (by decide +kernel) (by decide +kernel)
theorem fw_X1_17 : FLW RX1 17 1 1 := ⟨_, _, _, _, cls_1, by decide, aw_fl_X1_17, by decide +kernel⟩
theorem aw_ml_X2_3 : Cond.methodLink RX2 3 Lib.objectInit ∈ AW := aw_of (i := 164) (by decide +kernel) (by decide +kernel)
theorem oi_X2_3 : OBI RX2 3 := ⟨aw_ml_X2_3, aw_io, aw_co⟩
theorem ac_int : Cond.arrayClass .int ∈ AW := aw_of (i := 73) (by decide +kernel) (by decide +kernel)
theorem aw_fl_X2_9 : Cond.fieldLink RX2 9 RX2 (TX2 0).2.1 (TX2 0).2.2.1 ∈ AW := aw_of (i := 165) (by decide +kernel) (by decide +kernel)
theorem ff_X2_9 : FLF RX2 9 2 0 := ⟨_, _, _, _, cls_2, by decide, aw_fl_X2_9, by decide +kernel, rfl⟩
theorem aw_fl_X2_15 : Cond.fieldLink RX2 15 RX2 (TX2 1).2.1 (TX2 1).2.2.1 ∈ AW := aw_of (i := 166) (by decide +kernel) (by decide +kernel)
theorem ff_X2_15 : FLF RX2 15 2 1 := ⟨_, _, _, _, cls_2, by decide, aw_fl_X2_15, by decide +kernel, rfl⟩
theorem aw_fl_X2_18 : Cond.fieldLink RX2 18 RX2 (TX2 2).2.1 (TX2 2).2.2.1 ∈ AW := aw_of (i := 167) (by decide +kernel) (by decide +kernel)
theorem ff_X2_18 : FLF RX2 18 2 2 := ⟨_, _, _, _, cls_2, by decide, aw_fl_X2_18, by decide +kernel, rfl⟩
theorem aw_ml_X3_3 : Cond.methodLink RX3 3 Lib.objectInit ∈ AW := aw_of (i := 80) (by decide +kernel) (by decide +kernel)
theorem oi_X3_3 : OBI RX3 3 := ⟨aw_ml_X3_3, aw_io, aw_co⟩
theorem aw_fl_X3_11 : Cond.fieldLink RX3 11 RX3 (TX3 1).2.1 (TX3 1).2.2.1 ∈ AW := aw_of (i := 82) (by decide +kernel) (by decide +kernel)
theorem fw_X3_11 : FLW RX3 11 3 1 := ⟨_, _, _, _, cls_3, by decide, aw_fl_X3_11, by decide +kernel⟩
theorem aw_fl_X3_15 : Cond.fieldLink RX3 15 RX3 (TX3 2).2.1 (TX3 2).2.2.1 ∈ AW := aw_of (i := 83) (by decide +kernel) (by decide +kernel)
theorem fw_X3_15 : FLW RX3 15 3 2 := ⟨_, _, _, _, cls_3, by decide, aw_fl_X3_15, by decide +kernel⟩
theorem aw_fl_X3_19 : Cond.fieldLink RX3 19 RX3 (TX3 3).2.1 (TX3 3).2.2.1 ∈ AW := aw_of (i := 84) (by decide +kernel) (by decide +kernel)
theorem fw_X3_19 : FLW RX3 19 3 3 := ⟨_, _, _, _, cls_3, by decide, aw_fl_X3_19, by decide +kernel⟩
theorem aw_fl_X3_22 : Cond.fieldLink RX3 22 RX3 (TX3 4).2.1 (TX3 4).2.2.1 ∈ AW := aw_of (i := 85) (by decide +kernel) (by decide +kernel)
theorem fw_X3_22 : FLW RX3 22 3 4 := ⟨_, _, _, _, cls_3, by decide, aw_fl_X3_22, by decide +kernel⟩
theorem aw_fl_X3_25 : Cond.fieldLink RX3 25 RX3 (TX3 5).2.1 (TX3 5).2.2.1 ∈ AW := aw_of (i := 86) (by decide +kernel) (by decide +kernel)
theorem fw_X3_25 : FLW RX3 25 3 5 := ⟨_, _, _, _, cls_3, by decide, aw_fl_X3_25, by decide +kernel⟩
theorem aw_fl_X3_29 : Cond.fieldLink RX3 29 RX3 (TX3 6).2.1 (TX3 6).2.2.1 ∈ AW := aw_of (i := 87) (by decide +kernel) (by decide +kernel)
theorem fw_X3_29 : FLW RX3 29 3 6 := ⟨_, _, _, _, cls_3, by decide, aw_fl_X3_29, by decide +kernel⟩
theorem aw_fl_X3_32 : Cond.fieldLink RX3 32 RX3 (TX3 7).2.1 (TX3 7).2.2.1 ∈ AW := aw_of (i := 88) (by decide +kernel) (by decide +kernel)
theorem fw_X3_32 : FLW RX3 32 3 7 := ⟨_, _, _, _, cls_3, by decide, aw_fl_X3_32, by decide +kernel⟩
theorem aw_fl_X3_35 : Cond.fieldLink RX3 35 RX3 (TX3 0).2.1 (TX3 0).2.2.1 ∈ AW := aw_of (i := 81) (by decide +kernel) (by decide +kernel)
theorem ff_X3_35 : FLF RX3 35 3 0 := ⟨_, _, _, _, cls_3, by decide, aw_fl_X3_35, by decide +kernel, rfl⟩
theorem aw_ml_X3_38 : Cond.methodLink RX3 38 yX7_span ∈ AW := aw_of (i := 340) (by decide +kernel) (by decide +kernel)
theorem lk_X3_38 : LKS RX3 38 MX7_span 1 := ⟨⟨aw_ml_X3_38, wd_X7_span, ini_RX7, by decide +kernel, by decide +kernel, by decide⟩, sm_X7_span⟩
theorem fl_X3_35 : FL RX3 35 3 0 := ⟨_, _, _, _, cls_3, by decide, aw_fl_X3_35⟩
theorem aw_ml_X3_44 : Cond.methodLink RX3 44 yX7_has ∈ AW := aw_of (i := 350) (by decide +kernel) (by decide +kernel)
theorem lk_X3_44 : LKS RX3 44 MX7_has 2 := ⟨⟨aw_ml_X3_44, wd_X7_has, ini_RX7, by decide +kernel, by decide +kernel, by decide⟩, sm_X7_has⟩
theorem fl_X3_29 : FL RX3 29 3 6 := ⟨_, _, _, _, cls_3, by decide, aw_fl_X3_29⟩
theorem wd_X3_numberOf : wdM MX3_numberOf ∈ AW := aw_of (i := 356) (by decide +kernel) (by decide +kernel)
theorem aw_ml_X3_48 : Cond.methodLink RX3 48 yX3_numberOf ∈ AW := aw_of (i := 353) (by decide +kernel) (by decide +kernel)
theorem im_X3_numberOf : Cond.instanceMethod yX3_numberOf ∈ AW := aw_of (i := 355) (by decide +kernel) (by decide +kernel)
theorem se_X3_numberOf : Cond.selects RX3 yX3_numberOf yX3_numberOf ∈ AW := aw_of (i := 4) (by decide +kernel) (by decide +kernel)
theorem lk_X3_48 : LKV RX3 48 MX3_numberOf 3 3 := ⟨⟨aw_ml_X3_48, wd_X3_numberOf, ini_RX3, by decide +kernel, by decide +kernel, by decide⟩, im_X3_numberOf, _, _, _, _, cls_3, se_X3_numberOf⟩
theorem wd_X3_mark : wdM MX3_mark ∈ AW := aw_of (i := 393) (by decide +kernel) (by decide +kernel)
theorem aw_ml_X3_52 : Cond.methodLink RX3 52 yX3_mark ∈ AW := aw_of (i := 390) (by decide +kernel) (by decide +kernel)
theorem im_X3_mark : Cond.instanceMethod yX3_mark ∈ AW := aw_of (i := 392) (by decide +kernel) (by decide +kernel)
theorem se_X3_mark : Cond.selects RX3 yX3_mark yX3_mark ∈ AW := aw_of (i := 7) (by decide +kernel) (by decide +kernel)
theorem lk_X3_52 : LKV RX3 52 MX3_mark 2 3 := ⟨⟨aw_ml_X3_52, wd_X3_mark, ini_RX3, by decide +kernel, by decide +kernel, by decide⟩, im_X3_mark, _, _, _, _, cls_3, se_X3_mark⟩
theorem fl_X3_19 : FL RX3 19 3 3 := ⟨_, _, _, _, cls_3, by decide, aw_fl_X3_19⟩
theorem fl_X3_15 : FL RX3 15 3 2 := ⟨_, _, _, _, cls_3, by decide, aw_fl_X3_15⟩
theorem fl_X3_32 : FL RX3 32 3 7 := ⟨_, _, _, _, cls_3, by decide, aw_fl_X3_32⟩
theorem fl_X3_25 : FL RX3 25 3 5 := ⟨_, _, _, _, cls_3, by decide, aw_fl_X3_25⟩
theorem fl_X3_11 : FL RX3 11 3 1 := ⟨_, _, _, _, cls_3, by decide, aw_fl_X3_11⟩
theorem wd_X3_enlarge : wdM MX3_enlarge ∈ AW := aw_of (i := 360) (by decide +kernel) (by decide +kernel)
theorem aw_ml_X3_56 : Cond.methodLink RX3 56 yX3_enlarge ∈ AW := aw_of (i := 357) (by decide +kernel) (by decide +kernel)
theorem im_X3_enlarge : Cond.instanceMethod yX3_enlarge ∈ AW := aw_of (i := 359) (by decide +kernel) (by decide +kernel)
theorem se_X3_enlarge : Cond.selects RX3 yX3_enlarge yX3_enlarge ∈ AW := aw_of (i := 5) (by decide +kernel) (by decide +kernel)
theorem lk_X3_56 : LKV RX3 56 MX3_enlarge 0 3 := ⟨⟨aw_ml_X3_56, wd_X3_enlarge, ini_RX3, by decide +kernel, by decide +kernel, by decide⟩, im_X3_enlarge, _, _, _, _, cls_3, se_X3_enlarge⟩
theorem wd_X3_placeOf : wdM MX3_placeOf ∈ AW := aw_of (i := 388) (by decide +kernel) (by decide +kernel)
theorem aw_ml_X3_59 : Cond.methodLink RX3 59 yX3_placeOf ∈ AW := aw_of (i := 385) (by decide +kernel) (by decide +kernel)
theorem im_X3_placeOf : Cond.instanceMethod yX3_placeOf ∈ AW := aw_of (i := 387) (by decide +kernel) (by decide +kernel)
theorem se_X3_placeOf : Cond.selects RX3 yX3_placeOf yX3_placeOf ∈ AW := aw_of (i := 6) (by decide +kernel) (by decide +kernel)
theorem lk_X3_59 : LKV RX3 59 MX3_placeOf 1 3 := ⟨⟨aw_ml_X3_59, wd_X3_placeOf, ini_RX3, by decide +kernel, by decide +kernel, by decide⟩, im_X3_placeOf, _, _, _, _, cls_3, se_X3_placeOf⟩
theorem fl_X3_22 : FL RX3 22 3 4 := ⟨_, _, _, _, cls_3, by decide, aw_fl_X3_22⟩
theorem k_X3_63 : Cond.constantLong RX3 63 (-7046029254386353131) ∈ AW := aw_of (i := 389) (by decide +kernel) (by decide +kernel)
theorem wd_J7_copyOf_c38d5 : wdM MJ7_copyOf_c38d5 ∈ AW := aw_of (i := 363) (by decide +kernel) (by decide +kernel)
theorem aw_ml_X3_65 : Cond.methodLink RX3 65 yJ7_copyOf_c38d5 ∈ AW := aw_of (i := 361) (by decide +kernel) (by decide +kernel)
theorem sm_J7_copyOf_c38d5 : Cond.static yJ7_copyOf_c38d5 ∈ AW := aw_of (i := 362) (by decide +kernel) (by decide +kernel)
theorem lk_X3_65 : LKS RX3 65 MJ7_copyOf_c38d5 2 := ⟨⟨aw_ml_X3_65, wd_J7_copyOf_c38d5, ini_RJ7, by decide +kernel, by decide +kernel, by decide⟩, sm_J7_copyOf_c38d5⟩
theorem wd_J7_copyOf_59c91 : wdM MJ7_copyOf_59c91 ∈ AW := aw_of (i := 379) (by decide +kernel) (by decide +kernel)
theorem aw_ml_X3_71 : Cond.methodLink RX3 71 yJ7_copyOf_59c91 ∈ AW := aw_of (i := 377) (by decide +kernel) (by decide +kernel)
theorem sm_J7_copyOf_59c91 : Cond.static yJ7_copyOf_59c91 ∈ AW := aw_of (i := 378) (by decide +kernel) (by decide +kernel)
theorem lk_X3_71 : LKS RX3 71 MJ7_copyOf_59c91 2 := ⟨⟨aw_ml_X3_71, wd_J7_copyOf_59c91, ini_RJ7, by decide +kernel, by decide +kernel, by decide⟩, sm_J7_copyOf_59c91⟩
theorem aw_ml_X4_1 : Cond.methodLink RX4 1 Lib.objectInit ∈ AW := aw_of (i := 397) (by decide +kernel) (by decide +kernel)
theorem oi_X4_1 : OBI RX4 1 := ⟨aw_ml_X4_1, aw_io, aw_co⟩
theorem aw_fl_X4_7 : Cond.fieldLink RX4 7 RX4 (TX4 0).2.1 (TX4 0).2.2.1 ∈ AW := aw_of (i := 398) (by decide +kernel) (by decide +kernel)
theorem ff_X4_7 : FLF RX4 7 4 0 := ⟨_, _, _, _, cls_4, by decide, aw_fl_X4_7, by decide +kernel, rfl⟩
theorem aw_fl_X4_13 : Cond.fieldLink RX4 13 RX4 (TX4 1).2.1 (TX4 1).2.2.1 ∈ AW := aw_of (i := 400) (by decide +kernel) (by decide +kernel)
theorem ff_X4_13 : FLF RX4 13 4 1 := ⟨_, _, _, _, cls_4, by decide, aw_fl_X4_13, by decide +kernel, rfl⟩
theorem aw_fl_X4_17 : Cond.fieldLink RX4 17 RX4 (TX4 2).2.1 (TX4 2).2.2.1 ∈ AW := aw_of (i := 402) (by decide +kernel) (by decide +kernel)
theorem ff_X4_17 : FLF RX4 17 4 2 := ⟨_, _, _, _, cls_4, by decide, aw_fl_X4_17, by decide +kernel, rfl⟩
theorem aw_ml_X6_3 : Cond.methodLink RX6 3 Lib.objectInit ∈ AW := aw_of (i := 111) (by decide +kernel) (by decide +kernel)
theorem oi_X6_3 : OBI RX6 3 := ⟨aw_ml_X6_3, aw_io, aw_co⟩
theorem aw_fl_X6_9 : Cond.fieldLink RX6 9 RX6 (TX6 0).2.1 (TX6 0).2.2.1 ∈ AW := aw_of (i := 113) (by decide +kernel) (by decide +kernel)
theorem ff_X6_9 : FLF RX6 9 5 0 := ⟨_, _, _, _, cls_5, by decide, aw_fl_X6_9, by decide +kernel, rfl⟩
theorem aw_fl_X6_15 : Cond.fieldLink RX6 15 RX6 (TX6 1).2.1 (TX6 1).2.2.1 ∈ AW := aw_of (i := 114) (by decide +kernel) (by decide +kernel)
theorem ff_X6_15 : FLF RX6 15 5 1 := ⟨_, _, _, _, cls_5, by decide, aw_fl_X6_15, by decide +kernel, rfl⟩
theorem aw_fl_X6_18 : Cond.fieldLink RX6 18 RX6 (TX6 2).2.1 (TX6 2).2.2.1 ∈ AW := aw_of (i := 115) (by decide +kernel) (by decide +kernel)
theorem fw_X6_18 : FLW RX6 18 5 2 := ⟨_, _, _, _, cls_5, by decide, aw_fl_X6_18, by decide +kernel⟩
theorem ac_byte : Cond.arrayClass .byte ∈ AW := aw_of (i := 72) (by decide +kernel) (by decide +kernel)
theorem aw_fl_X6_22 : Cond.fieldLink RX6 22 RX6 (TX6 3).2.1 (TX6 3).2.2.1 ∈ AW := aw_of (i := 116) (by decide +kernel) (by decide +kernel)
theorem fw_X6_22 : FLW RX6 22 5 3 := ⟨_, _, _, _, cls_5, by decide, aw_fl_X6_22, by decide +kernel⟩
theorem aw_fl_X6_26 : Cond.fieldLink RX6 26 RX6 (TX6 4).2.1 (TX6 4).2.2.1 ∈ AW := aw_of (i := 117) (by decide +kernel) (by decide +kernel)
theorem fw_X6_26 : FLW RX6 26 5 4 := ⟨_, _, _, _, cls_5, by decide, aw_fl_X6_26, by decide +kernel⟩
theorem an_X6_29 : Cond.classLink RX6 29 RX4 ∈ AW := aw_of (i := 112) (by decide +kernel) (by decide +kernel)
theorem aw_fl_X6_31 : Cond.fieldLink RX6 31 RX6 (TX6 5).2.1 (TX6 5).2.2.1 ∈ AW := aw_of (i := 118) (by decide +kernel) (by decide +kernel)
theorem fw_X6_31 : FLW RX6 31 5 5 := ⟨_, _, _, _, cls_5, by decide, aw_fl_X6_31, by decide +kernel⟩
theorem aw_fl_X6_35 : Cond.fieldLink RX6 35 RX6 (TX6 6).2.1 (TX6 6).2.2.1 ∈ AW := aw_of (i := 119) (by decide +kernel) (by decide +kernel)
theorem fw_X6_35 : FLW RX6 35 5 6 := ⟨_, _, _, _, cls_5, by decide, aw_fl_X6_35, by decide +kernel⟩
theorem aw_fl_X6_38 : Cond.fieldLink RX6 38 RX6 (TX6 7).2.1 (TX6 7).2.2.1 ∈ AW := aw_of (i := 120) (by decide +kernel) (by decide +kernel)
theorem fw_X6_38 : FLW RX6 38 5 7 := ⟨_, _, _, _, cls_5, by decide, aw_fl_X6_38, by decide +kernel⟩
theorem aw_fl_X6_41 : Cond.fieldLink RX6 41 RX6 (TX6 8).2.1 (TX6 8).2.2.1 ∈ AW := aw_of (i := 121) (by decide +kernel) (by decide +kernel)
theorem fw_X6_41 : FLW RX6 41 5 8 := ⟨_, _, _, _, cls_5, by decide, aw_fl_X6_41, by decide +kernel⟩
theorem aw_fl_X6_44 : Cond.fieldLink RX6 44 RX6 (TX6 9).2.1 (TX6 9).2.2.1 ∈ AW := aw_of (i := 122) (by decide +kernel) (by decide +kernel)
theorem fw_X6_44 : FLW RX6 44 5 9 := ⟨_, _, _, _, cls_5, by decide, aw_fl_X6_44, by decide +kernel⟩
theorem k_X7_9 : Cond.constantLong RX7 9 (-1) ∈ AW := aw_of (i := 542) (by decide +kernel) (by decide +kernel)
theorem aw_ml_X7_11 : Cond.methodLink RX7 11 arraycopyName ∈ AW := aw_of (i := 534) (by decide +kernel) (by decide +kernel)
theorem aw_na : Cond.native arraycopyName ∈ AW := aw_of (i := 376) (by decide +kernel) (by decide +kernel)
theorem aw_sa : Cond.static arraycopyName ∈ AW := aw_of (i := 375) (by decide +kernel) (by decide +kernel)
theorem aw_ia : Cond.initialized "java/lang/System" ∈ AW := aw_of (i := 39) (by decide +kernel) (by decide +kernel)
theorem ac_X7_11 : ACL RX7 11 := ⟨aw_ml_X7_11, aw_na, aw_sa, aw_ia⟩
theorem wd_J13_bitCount_95d88 : wdM MJ13_bitCount_95d88 ∈ AW := aw_of (i := 332) (by decide +kernel) (by decide +kernel)
theorem ini_RJ13 : Cond.initialized RJ13 ∈ AW := aw_of (i := 36) (by decide +kernel) (by decide +kernel)
theorem aw_ml_X7_17 : Cond.methodLink RX7 17 yJ13_bitCount_95d88 ∈ AW := aw_of (i := 330) (by decide +kernel) (by decide +kernel)
theorem sm_J13_bitCount_95d88 : Cond.static yJ13_bitCount_95d88 ∈ AW := aw_of (i := 331) (by decide +kernel) (by decide +kernel)
theorem lk_X7_17 : LKS RX7 17 MJ13_bitCount_95d88 1 := ⟨⟨aw_ml_X7_17, wd_J13_bitCount_95d88, ini_RJ13, by decide +kernel, by decide +kernel, by decide⟩, sm_J13_bitCount_95d88⟩
theorem wd_J13_numberOfLeadingZeros_95d88 : wdM MJ13_numberOfLeadingZeros_95d88 ∈ AW := aw_of (i := 345) (by decide +kernel) (by decide +kernel)
theorem aw_ml_X7_23 : Cond.methodLink RX7 23 yJ13_numberOfLeadingZeros_95d88 ∈ AW := aw_of (i := 343) (by decide +kernel) (by decide +kernel)
theorem sm_J13_numberOfLeadingZeros_95d88 : Cond.static yJ13_numberOfLeadingZeros_95d88 ∈ AW := aw_of (i := 344) (by decide +kernel) (by decide +kernel)
theorem lk_X7_23 : LKS RX7 23 MJ13_numberOfLeadingZeros_95d88 1 := ⟨⟨aw_ml_X7_23, wd_J13_numberOfLeadingZeros_95d88, ini_RJ13, by decide +kernel, by decide +kernel, by decide⟩, sm_J13_numberOfLeadingZeros_95d88⟩
theorem wd_J13_numberOfTrailingZeros_95d88 : wdM MJ13_numberOfTrailingZeros_95d88 ∈ AW := aw_of (i := 499) (by decide +kernel) (by decide +kernel)
theorem aw_ml_X7_26 : Cond.methodLink RX7 26 yJ13_numberOfTrailingZeros_95d88 ∈ AW := aw_of (i := 497) (by decide +kernel) (by decide +kernel)
theorem sm_J13_numberOfTrailingZeros_95d88 : Cond.static yJ13_numberOfTrailingZeros_95d88 ∈ AW := aw_of (i := 498) (by decide +kernel) (by decide +kernel)
theorem lk_X7_26 : LKS RX7 26 MJ13_numberOfTrailingZeros_95d88 1 := ⟨⟨aw_ml_X7_26, wd_J13_numberOfTrailingZeros_95d88, ini_RJ13, by decide +kernel, by decide +kernel, by decide⟩, sm_J13_numberOfTrailingZeros_95d88⟩
theorem gs_X7_29 : Cond.fieldLink RX7 29 "FamilyStore$Rows" "WITH" "[J" ∈ AW := aw_of (i := 549) (by decide +kernel) (by decide +kernel)
theorem aw_ml_X7_35 : Cond.methodLink RX7 35 yX7_takeOut ∈ AW := aw_of (i := 554) (by decide +kernel) (by decide +kernel)
theorem lk_X7_35 : LKS RX7 35 MX7_takeOut 3 := ⟨⟨aw_ml_X7_35, wd_X7_takeOut, ini_RX7, by decide +kernel, by decide +kernel, by decide⟩, sm_X7_takeOut⟩
theorem aw_ml_X7_39 : Cond.methodLink RX7 39 yX7_putIn ∈ AW := aw_of (i := 546) (by decide +kernel) (by decide +kernel)
theorem lk_X7_39 : LKS RX7 39 MX7_putIn 3 := ⟨⟨aw_ml_X7_39, wd_X7_putIn, ini_RX7, by decide +kernel, by decide +kernel, by decide⟩, sm_X7_putIn⟩
theorem aw_ml_X8_1 : Cond.methodLink RX8 1 Lib.objectInit ∈ AW := aw_of (i := 48) (by decide +kernel) (by decide +kernel)
theorem oi_X8_1 : OBI RX8 1 := ⟨aw_ml_X8_1, aw_io, aw_co⟩
theorem aw_fl_X8_9 : Cond.fieldLink RX8 9 RX8 (TX8 0).2.1 (TX8 0).2.2.1 ∈ AW := aw_of (i := 175) (by decide +kernel) (by decide +kernel)
theorem ff_X8_9 : FLF RX8 9 6 0 := ⟨_, _, _, _, cls_6, by decide, aw_fl_X8_9, by decide +kernel, rfl⟩
theorem aw_fl_X8_13 : Cond.fieldLink RX8 13 RX8 (TX8 1).2.1 (TX8 1).2.2.1 ∈ AW := aw_of (i := 176) (by decide +kernel) (by decide +kernel)
theorem fw_X8_13 : FLW RX8 13 6 1 := ⟨_, _, _, _, cls_6, by decide, aw_fl_X8_13, by decide +kernel⟩
theorem aw_fl_X8_17 : Cond.fieldLink RX8 17 RX8 (TX8 2).2.1 (TX8 2).2.2.1 ∈ AW := aw_of (i := 177) (by decide +kernel) (by decide +kernel)
theorem fw_X8_17 : FLW RX8 17 6 2 := ⟨_, _, _, _, cls_6, by decide, aw_fl_X8_17, by decide +kernel⟩
theorem aw_fl_X8_20 : Cond.fieldLink RX8 20 RX8 (TX8 3).2.1 (TX8 3).2.2.1 ∈ AW := aw_of (i := 178) (by decide +kernel) (by decide +kernel)
theorem ff_X8_20 : FLF RX8 20 6 3 := ⟨_, _, _, _, cls_6, by decide, aw_fl_X8_20, by decide +kernel, rfl⟩
theorem aw_fl_X8_23 : Cond.fieldLink RX8 23 RX8 (TX8 4).2.1 (TX8 4).2.2.1 ∈ AW := aw_of (i := 179) (by decide +kernel) (by decide +kernel)
theorem fw_X8_23 : FLW RX8 23 6 4 := ⟨_, _, _, _, cls_6, by decide, aw_fl_X8_23, by decide +kernel⟩
theorem an_X8_26 : Cond.classLink RX8 26 RX4 ∈ AW := aw_of (i := 51) (by decide +kernel) (by decide +kernel)
theorem aw_fl_X8_28 : Cond.fieldLink RX8 28 RX8 (TX8 5).2.1 (TX8 5).2.2.1 ∈ AW := aw_of (i := 180) (by decide +kernel) (by decide +kernel)
theorem ff_X8_28 : FLF RX8 28 6 5 := ⟨_, _, _, _, cls_6, by decide, aw_fl_X8_28, by decide +kernel, rfl⟩
theorem aw_fl_X8_32 : Cond.fieldLink RX8 32 RX8 (TX8 6).2.1 (TX8 6).2.2.1 ∈ AW := aw_of (i := 181) (by decide +kernel) (by decide +kernel)
theorem fw_X8_32 : FLW RX8 32 6 6 := ⟨_, _, _, _, cls_6, by decide, aw_fl_X8_32, by decide +kernel⟩
theorem aw_fl_X8_35 : Cond.fieldLink RX8 35 RX8 (TX8 7).2.1 (TX8 7).2.2.1 ∈ AW := aw_of (i := 182) (by decide +kernel) (by decide +kernel)
theorem fw_X8_35 : FLW RX8 35 6 7 := ⟨_, _, _, _, cls_6, by decide, aw_fl_X8_35, by decide +kernel⟩
theorem aw_fl_X8_38 : Cond.fieldLink RX8 38 RX8 (TX8 8).2.1 (TX8 8).2.2.1 ∈ AW := aw_of (i := 183) (by decide +kernel) (by decide +kernel)
theorem ff_X8_38 : FLF RX8 38 6 8 := ⟨_, _, _, _, cls_6, by decide, aw_fl_X8_38, by decide +kernel, rfl⟩
theorem aw_fl_X8_42 : Cond.fieldLink RX8 42 RX8 (TX8 9).2.1 (TX8 9).2.2.1 ∈ AW := aw_of (i := 184) (by decide +kernel) (by decide +kernel)
theorem ff_X8_42 : FLF RX8 42 6 9 := ⟨_, _, _, _, cls_6, by decide, aw_fl_X8_42, by decide +kernel, rfl⟩
theorem aw_cl_X8_45 : Cond.classLink RX8 45 RX0 ∈ AW := aw_of (i := 53) (by decide +kernel) (by decide +kernel)
theorem nl_X8_45 : NL RX8 45 0 := ⟨_, _, _, _, cls_0, aw_cl_X8_45⟩
theorem fl_X8_38 : FL RX8 38 6 8 := ⟨_, _, _, _, cls_6, by decide, aw_fl_X8_38⟩
theorem fl_X8_42 : FL RX8 42 6 9 := ⟨_, _, _, _, cls_6, by decide, aw_fl_X8_42⟩
theorem wd_X0_init : wdM MX0_init ∈ AW := aw_of (i := 57) (by decide +kernel) (by decide +kernel)
theorem aw_ml_X8_47 : Cond.methodLink RX8 47 yX0_init ∈ AW := aw_of (i := 55) (by decide +kernel) (by decide +kernel)
theorem im_X0_init : Cond.instanceMethod yX0_init ∈ AW := aw_of (i := 56) (by decide +kernel) (by decide +kernel)
theorem lk_X8_47 : LKI RX8 47 MX0_init 2 := ⟨⟨aw_ml_X8_47, wd_X0_init, ini_RX0, by decide +kernel, by decide +kernel, by decide⟩, im_X0_init, rfl⟩
theorem aw_fl_X8_50 : Cond.fieldLink RX8 50 RX8 (TX8 10).2.1 (TX8 10).2.2.1 ∈ AW := aw_of (i := 185) (by decide +kernel) (by decide +kernel)
theorem ff_X8_50 : FLF RX8 50 6 10 := ⟨_, _, _, _, cls_6, by decide, aw_fl_X8_50, by decide +kernel, rfl⟩
theorem aw_cl_X8_54 : Cond.classLink RX8 54 RX3 ∈ AW := aw_of (i := 75) (by decide +kernel) (by decide +kernel)
theorem nl_X8_54 : NL RX8 54 3 := ⟨_, _, _, _, cls_3, aw_cl_X8_54⟩
theorem wd_X3_init : wdM MX3_init ∈ AW := aw_of (i := 79) (by decide +kernel) (by decide +kernel)
theorem aw_ml_X8_56 : Cond.methodLink RX8 56 yX3_init ∈ AW := aw_of (i := 77) (by decide +kernel) (by decide +kernel)
theorem im_X3_init : Cond.instanceMethod yX3_init ∈ AW := aw_of (i := 78) (by decide +kernel) (by decide +kernel)
theorem lk_X8_56 : LKI RX8 56 MX3_init 1 := ⟨⟨aw_ml_X8_56, wd_X3_init, ini_RX3, by decide +kernel, by decide +kernel, by decide⟩, im_X3_init, rfl⟩
theorem aw_fl_X8_59 : Cond.fieldLink RX8 59 RX8 (TX8 11).2.1 (TX8 11).2.2.1 ∈ AW := aw_of (i := 186) (by decide +kernel) (by decide +kernel)
theorem ff_X8_59 : FLF RX8 59 6 11 := ⟨_, _, _, _, cls_6, by decide, aw_fl_X8_59, by decide +kernel, rfl⟩
theorem aw_cl_X8_63 : Cond.classLink RX8 63 RX6 ∈ AW := aw_of (i := 106) (by decide +kernel) (by decide +kernel)
theorem nl_X8_63 : NL RX8 63 5 := ⟨_, _, _, _, cls_5, aw_cl_X8_63⟩
theorem wd_X6_init : wdM MX6_init ∈ AW := aw_of (i := 110) (by decide +kernel) (by decide +kernel)
theorem aw_mn_X8_65 : Cond.methodLinkNest RX8 65 yX6_init RX8 ∈ lw_tbl := List.mem_of_getElem? (i := 108) (by decide +kernel)
theorem im_X6_init : Cond.instanceMethod yX6_init ∈ AW := aw_of (i := 109) (by decide +kernel) (by decide +kernel)
theorem lk_X8_65 : LKN RX8 65 MX6_init 0 := ⟨⟨_, aw_mn_X8_65⟩, wd_X6_init, ini_RX6, by decide +kernel, by decide +kernel, by decide, im_X6_init, rfl⟩
theorem aw_fl_X8_66 : Cond.fieldLink RX8 66 RX8 (TX8 12).2.1 (TX8 12).2.2.1 ∈ AW := aw_of (i := 187) (by decide +kernel) (by decide +kernel)
theorem ff_X8_66 : FLF RX8 66 6 12 := ⟨_, _, _, _, cls_6, by decide, aw_fl_X8_66, by decide +kernel, rfl⟩
theorem aw_cl_X8_70 : Cond.classLink RX8 70 RX1 ∈ AW := aw_of (i := 144) (by decide +kernel) (by decide +kernel)
theorem nl_X8_70 : NL RX8 70 1 := ⟨_, _, _, _, cls_1, aw_cl_X8_70⟩
theorem wd_X1_init : wdM MX1_init ∈ AW := aw_of (i := 148) (by decide +kernel) (by decide +kernel)
theorem aw_mn_X8_72 : Cond.methodLinkNest RX8 72 yX1_init RX8 ∈ lw_tbl := List.mem_of_getElem? (i := 146) (by decide +kernel)
theorem im_X1_init : Cond.instanceMethod yX1_init ∈ AW := aw_of (i := 147) (by decide +kernel) (by decide +kernel)
theorem lk_X8_72 : LKN RX8 72 MX1_init 0 := ⟨⟨_, aw_mn_X8_72⟩, wd_X1_init, ini_RX1, by decide +kernel, by decide +kernel, by decide, im_X1_init, rfl⟩
theorem aw_fl_X8_73 : Cond.fieldLink RX8 73 RX8 (TX8 13).2.1 (TX8 13).2.2.1 ∈ AW := aw_of (i := 188) (by decide +kernel) (by decide +kernel)
theorem ff_X8_73 : FLF RX8 73 6 13 := ⟨_, _, _, _, cls_6, by decide, aw_fl_X8_73, by decide +kernel, rfl⟩
theorem aw_cl_X8_77 : Cond.classLink RX8 77 RX2 ∈ AW := aw_of (i := 159) (by decide +kernel) (by decide +kernel)
theorem nl_X8_77 : NL RX8 77 2 := ⟨_, _, _, _, cls_2, aw_cl_X8_77⟩
theorem wd_X2_init : wdM MX2_init ∈ AW := aw_of (i := 163) (by decide +kernel) (by decide +kernel)
theorem aw_mn_X8_79 : Cond.methodLinkNest RX8 79 yX2_init RX8 ∈ lw_tbl := List.mem_of_getElem? (i := 161) (by decide +kernel)
theorem im_X2_init : Cond.instanceMethod yX2_init ∈ AW := aw_of (i := 162) (by decide +kernel) (by decide +kernel)
theorem lk_X8_79 : LKN RX8 79 MX2_init 0 := ⟨⟨_, aw_mn_X8_79⟩, wd_X2_init, ini_RX2, by decide +kernel, by decide +kernel, by decide, im_X2_init, rfl⟩
theorem aw_fl_X8_80 : Cond.fieldLink RX8 80 RX8 (TX8 14).2.1 (TX8 14).2.2.1 ∈ AW := aw_of (i := 189) (by decide +kernel) (by decide +kernel)
theorem ff_X8_80 : FLF RX8 80 6 14 := ⟨_, _, _, _, cls_6, by decide, aw_fl_X8_80, by decide +kernel, rfl⟩
theorem aw_fl_X8_84 : Cond.fieldLink RX8 84 RX8 (TX8 15).2.1 (TX8 15).2.2.1 ∈ AW := aw_of (i := 190) (by decide +kernel) (by decide +kernel)
theorem ff_X8_84 : FLF RX8 84 6 15 := ⟨_, _, _, _, cls_6, by decide, aw_fl_X8_84, by decide +kernel, rfl⟩
theorem aw_fl_X8_87 : Cond.fieldLink RX8 87 RX8 (TX8 16).2.1 (TX8 16).2.2.1 ∈ AW := aw_of (i := 191) (by decide +kernel) (by decide +kernel)
theorem fw_X8_87 : FLW RX8 87 6 16 := ⟨_, _, _, _, cls_6, by decide, aw_fl_X8_87, by decide +kernel⟩
theorem wd_X8_checkMask : wdM MX8_checkMask ∈ AW := aw_of (i := 234) (by decide +kernel) (by decide +kernel)
theorem aw_ml_X8_162 : Cond.methodLink RX8 162 yX8_checkMask ∈ AW := aw_of (i := 231) (by decide +kernel) (by decide +kernel)
theorem im_X8_checkMask : Cond.instanceMethod yX8_checkMask ∈ AW := aw_of (i := 233) (by decide +kernel) (by decide +kernel)
theorem se_X8_checkMask : Cond.selects RX8 yX8_checkMask yX8_checkMask ∈ AW := aw_of (i := 0) (by decide +kernel) (by decide +kernel)
theorem lk_X8_162 : LKV RX8 162 MX8_checkMask 1 6 := ⟨⟨aw_ml_X8_162, wd_X8_checkMask, ini_RX8, by decide +kernel, by decide +kernel, by decide⟩, im_X8_checkMask, _, _, _, _, cls_6, se_X8_checkMask⟩
theorem wd_X8_checkRoom : wdM MX8_checkRoom ∈ AW := aw_of (i := 303) (by decide +kernel) (by decide +kernel)
theorem aw_ml_X8_104 : Cond.methodLink RX8 104 yX8_checkRoom ∈ AW := aw_of (i := 300) (by decide +kernel) (by decide +kernel)
theorem im_X8_checkRoom : Cond.instanceMethod yX8_checkRoom ∈ AW := aw_of (i := 302) (by decide +kernel) (by decide +kernel)
theorem se_X8_checkRoom : Cond.selects RX8 yX8_checkRoom yX8_checkRoom ∈ AW := aw_of (i := 2) (by decide +kernel) (by decide +kernel)
theorem lk_X8_104 : LKV RX8 104 MX8_checkRoom 0 6 := ⟨⟨aw_ml_X8_104, wd_X8_checkRoom, ini_RX8, by decide +kernel, by decide +kernel, by decide⟩, im_X8_checkRoom, _, _, _, _, cls_6, se_X8_checkRoom⟩
theorem aw_ml_X8_165 : Cond.methodLink RX8 165 yX7_put ∈ AW := aw_of (i := 319) (by decide +kernel) (by decide +kernel)
theorem lk_X8_165 : LKS RX8 165 MX7_put 2 := ⟨⟨aw_ml_X8_165, wd_X7_put, ini_RX7, by decide +kernel, by decide +kernel, by decide⟩, sm_X7_put⟩
theorem wd_X8_addFamily : wdM MX8_addFamily ∈ AW := aw_of (i := 325) (by decide +kernel) (by decide +kernel)
theorem aw_ml_X8_120 : Cond.methodLink RX8 120 yX8_addFamily ∈ AW := aw_of (i := 322) (by decide +kernel) (by decide +kernel)
theorem im_X8_addFamily : Cond.instanceMethod yX8_addFamily ∈ AW := aw_of (i := 324) (by decide +kernel) (by decide +kernel)
theorem se_X8_addFamily : Cond.selects RX8 yX8_addFamily yX8_addFamily ∈ AW := aw_of (i := 3) (by decide +kernel) (by decide +kernel)
theorem lk_X8_120 : LKV RX8 120 MX8_addFamily 1 6 := ⟨⟨aw_ml_X8_120, wd_X8_addFamily, ini_RX8, by decide +kernel, by decide +kernel, by decide⟩, im_X8_addFamily, _, _, _, _, cls_6, se_X8_addFamily⟩
theorem aw_cl_X8_97 : Cond.classLink RX8 97 "java/lang/IllegalArgumentException" ∈ AW := aw_of (i := 235) (by decide +kernel) (by decide +kernel)
theorem ini_x97 : Cond.initialized "java/lang/IllegalArgumentException" ∈ AW := aw_of (i := 30) (by decide +kernel) (by decide +kernel)
theorem th_X8_97 : TH RX8 97 99 "java/lang/IllegalArgumentException" ["java/lang/RuntimeException", "java/lang/Exception"] := by
  refine ⟨by decide +kernel, by decide +kernel, aw_cl_X8_97, ini_x97, ?_, ?_⟩
  · have h : ((vx_at0 RX8 99 "java/lang/IllegalArgumentException" ["java/lang/RuntimeException", "java/lang/Exception"]).all fun w => lw_tbl.contains w && (goodWord w || ngW w)) = true := by decide +kernel
    intro w hw
    have h2 := List.all_eq_true.mp h w hw
    rw [Bool.and_eq_true, Bool.or_eq_true] at h2
    exact ⟨List.contains_iff_mem.mp h2.1, h2.2⟩
  · have h : ((Cond.classLink RX8 97 "java/lang/IllegalArgumentException" :: Cond.initialized "java/lang/IllegalArgumentException" :: vx_at0 RX8 99 "java/lang/IllegalArgumentException" ["java/lang/RuntimeException", "java/lang/Exception"]).all vx_ot) = true := by decide +kernel
    exact fun w hw => List.all_eq_true.mp h w hw
theorem wd_J6_bitCount_0f7a4 : wdM MJ6_bitCount_0f7a4 ∈ AW := aw_of (i := 642) (by decide +kernel) (by decide +kernel)
theorem ini_RJ6 : Cond.initialized RJ6 ∈ AW := aw_of (i := 33) (by decide +kernel) (by decide +kernel)
theorem aw_ml_X8_148 : Cond.methodLink RX8 148 yJ6_bitCount_0f7a4 ∈ AW := aw_of (i := 640) (by decide +kernel) (by decide +kernel)
theorem sm_J6_bitCount_0f7a4 : Cond.static yJ6_bitCount_0f7a4 ∈ AW := aw_of (i := 641) (by decide +kernel) (by decide +kernel)
theorem lk_X8_148 : LKS RX8 148 MJ6_bitCount_0f7a4 1 := ⟨⟨aw_ml_X8_148, wd_J6_bitCount_0f7a4, ini_RJ6, by decide +kernel, by decide +kernel, by decide⟩, sm_J6_bitCount_0f7a4⟩
theorem wd_X8_familyOf : wdM MX8_familyOf ∈ AW := aw_of (i := 417) (by decide +kernel) (by decide +kernel)
theorem aw_ml_X8_124 : Cond.methodLink RX8 124 yX8_familyOf ∈ AW := aw_of (i := 414) (by decide +kernel) (by decide +kernel)
theorem im_X8_familyOf : Cond.instanceMethod yX8_familyOf ∈ AW := aw_of (i := 416) (by decide +kernel) (by decide +kernel)
theorem se_X8_familyOf : Cond.selects RX8 yX8_familyOf yX8_familyOf ∈ AW := aw_of (i := 8) (by decide +kernel) (by decide +kernel)
theorem lk_X8_124 : LKV RX8 124 MX8_familyOf 1 6 := ⟨⟨aw_ml_X8_124, wd_X8_familyOf, ini_RX8, by decide +kernel, by decide +kernel, by decide⟩, im_X8_familyOf, _, _, _, _, cls_6, se_X8_familyOf⟩
theorem fl_X8_59 : FL RX8 59 6 11 := ⟨_, _, _, _, cls_6, by decide, aw_fl_X8_59⟩
theorem aw_fl_X8_128 : Cond.fieldLink RX8 128 RX4 (TX4 0).2.1 (TX4 0).2.2.1 ∈ AW := aw_of (i := 399) (by decide +kernel) (by decide +kernel)
theorem fl_X8_128 : FL RX8 128 4 0 := ⟨_, _, _, _, cls_4, by decide, aw_fl_X8_128⟩
theorem wd_X3_visit : wdM MX3_visit ∈ AW := aw_of (i := 339) (by decide +kernel) (by decide +kernel)
theorem aw_ml_X8_169 : Cond.methodLink RX8 169 yX3_visit ∈ AW := aw_of (i := 336) (by decide +kernel) (by decide +kernel)
theorem im_X3_visit : Cond.instanceMethod yX3_visit ∈ AW := aw_of (i := 337) (by decide +kernel) (by decide +kernel)
theorem se_X3_visit : Cond.selects RX3 yX3_visit yX3_visit ∈ AW := aw_of (i := 338) (by decide +kernel) (by decide +kernel)
theorem lk_X8_169 : LKV RX8 169 MX3_visit 2 3 := ⟨⟨aw_ml_X8_169, wd_X3_visit, ini_RX3, by decide +kernel, by decide +kernel, by decide⟩, im_X3_visit, _, _, _, _, cls_3, se_X3_visit⟩
theorem fl_X8_28 : FL RX8 28 6 5 := ⟨_, _, _, _, cls_6, by decide, aw_fl_X8_28⟩
theorem fl_X8_35 : FL RX8 35 6 7 := ⟨_, _, _, _, cls_6, by decide, aw_fl_X8_35⟩
theorem fl_X8_32 : FL RX8 32 6 6 := ⟨_, _, _, _, cls_6, by decide, aw_fl_X8_32⟩
theorem aw_cl_X8_159 : Cond.classLink RX8 159 "java/lang/IndexOutOfBoundsException" ∈ AW := aw_of (i := 422) (by decide +kernel) (by decide +kernel)
theorem ini_x159 : Cond.initialized "java/lang/IndexOutOfBoundsException" ∈ AW := aw_of (i := 40) (by decide +kernel) (by decide +kernel)
theorem th_X8_159 : TH RX8 159 161 "java/lang/IndexOutOfBoundsException" ["java/lang/RuntimeException", "java/lang/Exception"] := by
  refine ⟨by decide +kernel, by decide +kernel, aw_cl_X8_159, ini_x159, ?_, ?_⟩
  · have h : ((vx_at0 RX8 161 "java/lang/IndexOutOfBoundsException" ["java/lang/RuntimeException", "java/lang/Exception"]).all fun w => lw_tbl.contains w && (goodWord w || ngW w)) = true := by decide +kernel
    intro w hw
    have h2 := List.all_eq_true.mp h w hw
    rw [Bool.and_eq_true, Bool.or_eq_true] at h2
    exact ⟨List.contains_iff_mem.mp h2.1, h2.2⟩
  · have h : ((Cond.classLink RX8 159 "java/lang/IndexOutOfBoundsException" :: Cond.initialized "java/lang/IndexOutOfBoundsException" :: vx_at0 RX8 161 "java/lang/IndexOutOfBoundsException" ["java/lang/RuntimeException", "java/lang/Exception"]).all vx_ot) = true := by decide +kernel
    exact fun w hw => List.all_eq_true.mp h w hw
theorem aw_cl_X8_90 : Cond.classLink RX8 90 "java/lang/IllegalStateException" ∈ AW := aw_of (i := 304) (by decide +kernel) (by decide +kernel)
theorem ini_x90 : Cond.initialized "java/lang/IllegalStateException" ∈ AW := aw_of (i := 31) (by decide +kernel) (by decide +kernel)
theorem th_X8_90 : TH RX8 90 92 "java/lang/IllegalStateException" ["java/lang/RuntimeException", "java/lang/Exception"] := by
  refine ⟨by decide +kernel, by decide +kernel, aw_cl_X8_90, ini_x90, ?_, ?_⟩
  · have h : ((vx_at0 RX8 92 "java/lang/IllegalStateException" ["java/lang/RuntimeException", "java/lang/Exception"]).all fun w => lw_tbl.contains w && (goodWord w || ngW w)) = true := by decide +kernel
    intro w hw
    have h2 := List.all_eq_true.mp h w hw
    rw [Bool.and_eq_true, Bool.or_eq_true] at h2
    exact ⟨List.contains_iff_mem.mp h2.1, h2.2⟩
  · have h : ((Cond.classLink RX8 90 "java/lang/IllegalStateException" :: Cond.initialized "java/lang/IllegalStateException" :: vx_at0 RX8 92 "java/lang/IllegalStateException" ["java/lang/RuntimeException", "java/lang/Exception"]).all vx_ot) = true := by decide +kernel
    exact fun w hw => List.all_eq_true.mp h w hw
theorem wd_X8_checkCreated : wdM MX8_checkCreated ∈ AW := aw_of (i := 421) (by decide +kernel) (by decide +kernel)
theorem aw_ml_X8_179 : Cond.methodLink RX8 179 yX8_checkCreated ∈ AW := aw_of (i := 418) (by decide +kernel) (by decide +kernel)
theorem im_X8_checkCreated : Cond.instanceMethod yX8_checkCreated ∈ AW := aw_of (i := 420) (by decide +kernel) (by decide +kernel)
theorem se_X8_checkCreated : Cond.selects RX8 yX8_checkCreated yX8_checkCreated ∈ AW := aw_of (i := 9) (by decide +kernel) (by decide +kernel)
theorem lk_X8_179 : LKV RX8 179 MX8_checkCreated 1 6 := ⟨⟨aw_ml_X8_179, wd_X8_checkCreated, ini_RX8, by decide +kernel, by decide +kernel, by decide⟩, im_X8_checkCreated, _, _, _, _, cls_6, se_X8_checkCreated⟩
theorem aw_cl_X8_182 : Cond.classLink RX8 182 "java/util/NoSuchElementException" ∈ AW := aw_of (i := 437) (by decide +kernel) (by decide +kernel)
theorem ini_x182 : Cond.initialized "java/util/NoSuchElementException" ∈ AW := aw_of (i := 41) (by decide +kernel) (by decide +kernel)
theorem th_X8_182 : TH RX8 182 184 "java/util/NoSuchElementException" ["java/lang/RuntimeException", "java/lang/Exception"] := by
  refine ⟨by decide +kernel, by decide +kernel, aw_cl_X8_182, ini_x182, ?_, ?_⟩
  · have h : ((vx_at0 RX8 184 "java/util/NoSuchElementException" ["java/lang/RuntimeException", "java/lang/Exception"]).all fun w => lw_tbl.contains w && (goodWord w || ngW w)) = true := by decide +kernel
    intro w hw
    have h2 := List.all_eq_true.mp h w hw
    rw [Bool.and_eq_true, Bool.or_eq_true] at h2
    exact ⟨List.contains_iff_mem.mp h2.1, h2.2⟩
  · have h : ((Cond.classLink RX8 182 "java/util/NoSuchElementException" :: Cond.initialized "java/util/NoSuchElementException" :: vx_at0 RX8 184 "java/util/NoSuchElementException" ["java/lang/RuntimeException", "java/lang/Exception"]).all vx_ot) = true := by decide +kernel
    exact fun w hw => List.all_eq_true.mp h w hw
theorem aw_cl_X8_26 : Cond.classLink RX8 26 RX4 ∈ AW := aw_of (i := 51) (by decide +kernel) (by decide +kernel)
theorem nl_X8_26 : NL RX8 26 4 := ⟨_, _, _, _, cls_4, aw_cl_X8_26⟩
theorem wd_X7_size : wdM MX7_size ∈ AW := aw_of (i := 329) (by decide +kernel) (by decide +kernel)
theorem aw_ml_X8_188 : Cond.methodLink RX8 188 yX7_size ∈ AW := aw_of (i := 327) (by decide +kernel) (by decide +kernel)
theorem sm_X7_size : Cond.static yX7_size ∈ AW := aw_of (i := 328) (by decide +kernel) (by decide +kernel)
theorem lk_X8_188 : LKS RX8 188 MX7_size 1 := ⟨⟨aw_ml_X8_188, wd_X7_size, ini_RX7, by decide +kernel, by decide +kernel, by decide⟩, sm_X7_size⟩
theorem wd_X4_init : wdM MX4_init ∈ AW := aw_of (i := 396) (by decide +kernel) (by decide +kernel)
theorem aw_ml_X8_191 : Cond.methodLink RX8 191 yX4_init ∈ AW := aw_of (i := 394) (by decide +kernel) (by decide +kernel)
theorem im_X4_init : Cond.instanceMethod yX4_init ∈ AW := aw_of (i := 395) (by decide +kernel) (by decide +kernel)
theorem lk_X8_191 : LKI RX8 191 MX4_init 3 := ⟨⟨aw_ml_X8_191, wd_X4_init, ini_RX4, by decide +kernel, by decide +kernel, by decide⟩, im_X4_init, rfl⟩
theorem wd_X8_addOfTwo : wdM MX8_addOfTwo ∈ AW := aw_of (i := 459) (by decide +kernel) (by decide +kernel)
theorem aw_ml_X8_194 : Cond.methodLink RX8 194 yX8_addOfTwo ∈ AW := aw_of (i := 456) (by decide +kernel) (by decide +kernel)
theorem im_X8_addOfTwo : Cond.instanceMethod yX8_addOfTwo ∈ AW := aw_of (i := 458) (by decide +kernel) (by decide +kernel)
theorem se_X8_addOfTwo : Cond.selects RX8 yX8_addOfTwo yX8_addOfTwo ∈ AW := aw_of (i := 10) (by decide +kernel) (by decide +kernel)
theorem lk_X8_194 : LKV RX8 194 MX8_addOfTwo 3 6 := ⟨⟨aw_ml_X8_194, wd_X8_addOfTwo, ini_RX8, by decide +kernel, by decide +kernel, by decide⟩, im_X8_addOfTwo, _, _, _, _, cls_6, se_X8_addOfTwo⟩
theorem wd_X8_addOfOne : wdM MX8_addOfOne ∈ AW := aw_of (i := 584) (by decide +kernel) (by decide +kernel)
theorem aw_ml_X8_198 : Cond.methodLink RX8 198 yX8_addOfOne ∈ AW := aw_of (i := 581) (by decide +kernel) (by decide +kernel)
theorem im_X8_addOfOne : Cond.instanceMethod yX8_addOfOne ∈ AW := aw_of (i := 583) (by decide +kernel) (by decide +kernel)
theorem se_X8_addOfOne : Cond.selects RX8 yX8_addOfOne yX8_addOfOne ∈ AW := aw_of (i := 16) (by decide +kernel) (by decide +kernel)
theorem lk_X8_198 : LKV RX8 198 MX8_addOfOne 2 6 := ⟨⟨aw_ml_X8_198, wd_X8_addOfOne, ini_RX8, by decide +kernel, by decide +kernel, by decide⟩, im_X8_addOfOne, _, _, _, _, cls_6, se_X8_addOfOne⟩
theorem aw_ml_X8_114 : Cond.methodLink RX8 114 yJ7_copyOf_c38d5 ∈ AW := aw_of (i := 475) (by decide +kernel) (by decide +kernel)
theorem lk_X8_114 : LKS RX8 114 MJ7_copyOf_c38d5 2 := ⟨⟨aw_ml_X8_114, wd_J7_copyOf_c38d5, ini_RJ7, by decide +kernel, by decide +kernel, by decide⟩, sm_J7_copyOf_c38d5⟩
theorem fl_X8_50 : FL RX8 50 6 10 := ⟨_, _, _, _, cls_6, by decide, aw_fl_X8_50⟩
theorem wd_X0_applyToOne : wdM MX0_applyToOne ∈ AW := aw_of (i := 588) (by decide +kernel) (by decide +kernel)
theorem aw_ml_X8_201 : Cond.methodLink RX8 201 yX0_applyToOne ∈ AW := aw_of (i := 585) (by decide +kernel) (by decide +kernel)
theorem im_X0_applyToOne : Cond.instanceMethod yX0_applyToOne ∈ AW := aw_of (i := 586) (by decide +kernel) (by decide +kernel)
theorem se_X0_applyToOne : Cond.selects RX0 yX0_applyToOne yX0_applyToOne ∈ AW := aw_of (i := 587) (by decide +kernel) (by decide +kernel)
theorem lk_X8_201 : LKV RX8 201 MX0_applyToOne 2 0 := ⟨⟨aw_ml_X8_201, wd_X0_applyToOne, ini_RX0, by decide +kernel, by decide +kernel, by decide⟩, im_X0_applyToOne, _, _, _, _, cls_0, se_X0_applyToOne⟩
theorem aw_fl_X8_185 : Cond.fieldLink RX8 185 RX4 (TX4 1).2.1 (TX4 1).2.2.1 ∈ AW := aw_of (i := 401) (by decide +kernel) (by decide +kernel)
theorem fl_X8_185 : FL RX8 185 4 1 := ⟨_, _, _, _, cls_4, by decide, aw_fl_X8_185⟩
theorem aw_cl_X8_111 : Cond.classLink RX8 111 "java/lang/ArithmeticException" ∈ AW := aw_of (i := 460) (by decide +kernel) (by decide +kernel)
theorem ini_x111 : Cond.initialized "java/lang/ArithmeticException" ∈ AW := aw_of (i := 42) (by decide +kernel) (by decide +kernel)
theorem th_X8_111 : TH RX8 111 113 "java/lang/ArithmeticException" ["java/lang/RuntimeException", "java/lang/Exception"] := by
  refine ⟨by decide +kernel, by decide +kernel, aw_cl_X8_111, ini_x111, ?_, ?_⟩
  · have h : ((vx_at0 RX8 113 "java/lang/ArithmeticException" ["java/lang/RuntimeException", "java/lang/Exception"]).all fun w => lw_tbl.contains w && (goodWord w || ngW w)) = true := by decide +kernel
    intro w hw
    have h2 := List.all_eq_true.mp h w hw
    rw [Bool.and_eq_true, Bool.or_eq_true] at h2
    exact ⟨List.contains_iff_mem.mp h2.1, h2.2⟩
  · have h : ((Cond.classLink RX8 111 "java/lang/ArithmeticException" :: Cond.initialized "java/lang/ArithmeticException" :: vx_at0 RX8 113 "java/lang/ArithmeticException" ["java/lang/RuntimeException", "java/lang/Exception"]).all vx_ot) = true := by decide +kernel
    exact fun w hw => List.all_eq_true.mp h w hw
theorem wd_X0_applyToTwo : wdM MX0_applyToTwo ∈ AW := aw_of (i := 479) (by decide +kernel) (by decide +kernel)
theorem aw_ml_X8_205 : Cond.methodLink RX8 205 yX0_applyToTwo ∈ AW := aw_of (i := 476) (by decide +kernel) (by decide +kernel)
theorem im_X0_applyToTwo : Cond.instanceMethod yX0_applyToTwo ∈ AW := aw_of (i := 477) (by decide +kernel) (by decide +kernel)
theorem se_X0_applyToTwo : Cond.selects RX0 yX0_applyToTwo yX0_applyToTwo ∈ AW := aw_of (i := 478) (by decide +kernel) (by decide +kernel)
theorem lk_X8_205 : LKV RX8 205 MX0_applyToTwo 3 0 := ⟨⟨aw_ml_X8_205, wd_X0_applyToTwo, ini_RX0, by decide +kernel, by decide +kernel, by decide⟩, im_X0_applyToTwo, _, _, _, _, cls_0, se_X0_applyToTwo⟩
theorem aw_ml_X8_218 : Cond.methodLink RX8 218 yX7_has ∈ AW := aw_of (i := 661) (by decide +kernel) (by decide +kernel)
theorem lk_X8_218 : LKS RX8 218 MX7_has 2 := ⟨⟨aw_ml_X8_218, wd_X7_has, ini_RX7, by decide +kernel, by decide +kernel, by decide⟩, sm_X7_has⟩
theorem wd_X7_isInside : wdM MX7_isInside ∈ AW := aw_of (i := 620) (by decide +kernel) (by decide +kernel)
theorem aw_ml_X8_222 : Cond.methodLink RX8 222 yX7_isInside ∈ AW := aw_of (i := 618) (by decide +kernel) (by decide +kernel)
theorem sm_X7_isInside : Cond.static yX7_isInside ∈ AW := aw_of (i := 619) (by decide +kernel) (by decide +kernel)
theorem lk_X8_222 : LKS RX8 222 MX7_isInside 2 := ⟨⟨aw_ml_X8_222, wd_X7_isInside, ini_RX7, by decide +kernel, by decide +kernel, by decide⟩, sm_X7_isInside⟩
theorem k_J6_264 : Cond.constant RJ6 264 65536 ∈ AW := aw_of (i := 349) (by decide +kernel) (by decide +kernel)
theorem k_J6_265 : Cond.constant RJ6 265 1431655765 ∈ AW := aw_of (i := 643) (by decide +kernel) (by decide +kernel)
theorem k_J6_266 : Cond.constant RJ6 266 858993459 ∈ AW := aw_of (i := 644) (by decide +kernel) (by decide +kernel)
theorem k_J6_267 : Cond.constant RJ6 267 252645135 ∈ AW := aw_of (i := 645) (by decide +kernel) (by decide +kernel)
theorem wd_J6_numberOfLeadingZeros_0f7a4 : wdM MJ6_numberOfLeadingZeros_0f7a4 ∈ AW := aw_of (i := 348) (by decide +kernel) (by decide +kernel)
theorem aw_ml_J13_308 : Cond.methodLink RJ13 308 yJ6_numberOfLeadingZeros_0f7a4 ∈ AW := aw_of (i := 346) (by decide +kernel) (by decide +kernel)
theorem sm_J6_numberOfLeadingZeros_0f7a4 : Cond.static yJ6_numberOfLeadingZeros_0f7a4 ∈ AW := aw_of (i := 347) (by decide +kernel) (by decide +kernel)
theorem lk_J13_308 : LKS RJ13 308 MJ6_numberOfLeadingZeros_0f7a4 1 := ⟨⟨aw_ml_J13_308, wd_J6_numberOfLeadingZeros_0f7a4, ini_RJ6, by decide +kernel, by decide +kernel, by decide⟩, sm_J6_numberOfLeadingZeros_0f7a4⟩
theorem wd_J6_numberOfTrailingZeros_0f7a4 : wdM MJ6_numberOfTrailingZeros_0f7a4 ∈ AW := aw_of (i := 502) (by decide +kernel) (by decide +kernel)
theorem aw_ml_J13_311 : Cond.methodLink RJ13 311 yJ6_numberOfTrailingZeros_0f7a4 ∈ AW := aw_of (i := 500) (by decide +kernel) (by decide +kernel)
theorem sm_J6_numberOfTrailingZeros_0f7a4 : Cond.static yJ6_numberOfTrailingZeros_0f7a4 ∈ AW := aw_of (i := 501) (by decide +kernel) (by decide +kernel)
theorem lk_J13_311 : LKS RJ13 311 MJ6_numberOfTrailingZeros_0f7a4 1 := ⟨⟨aw_ml_J13_311, wd_J6_numberOfTrailingZeros_0f7a4, ini_RJ6, by decide +kernel, by decide +kernel, by decide⟩, sm_J6_numberOfTrailingZeros_0f7a4⟩
theorem k_J13_314 : Cond.constantLong RJ13 314 6148914691236517205 ∈ AW := aw_of (i := 333) (by decide +kernel) (by decide +kernel)
theorem k_J13_316 : Cond.constantLong RJ13 316 3689348814741910323 ∈ AW := aw_of (i := 334) (by decide +kernel) (by decide +kernel)
theorem k_J13_318 : Cond.constantLong RJ13 318 1085102592571150095 ∈ AW := aw_of (i := 335) (by decide +kernel) (by decide +kernel)
theorem aw_ml_J7_304 : Cond.methodLink RJ7 304 Lib.Math.min.name ∈ AW := aw_of (i := 371) (by decide +kernel) (by decide +kernel)
theorem aw_smin : Cond.static Lib.Math.min.name ∈ AW := aw_of (i := 372) (by decide +kernel) (by decide +kernel)
theorem aw_cmin : Cond.code Lib.Math.min.name Lib.Math.min.code 2 (some .int) ∈ AW := aw_of (i := 373) (by decide +kernel) (by decide +kernel)
theorem mm_J7_304 : MNL RJ7 304 := ⟨aw_ml_J7_304, aw_smin, aw_im, aw_cmin⟩
theorem aw_ml_J7_150 : Cond.methodLink RJ7 150 arraycopyName ∈ AW := aw_of (i := 374) (by decide +kernel) (by decide +kernel)
theorem ac_J7_150 : ACL RJ7 150 := ⟨aw_ml_J7_150, aw_na, aw_sa, aw_ia⟩
theorem k_L_7 : Cond.constant RL 7 2147483647 ∈ AW := aw_of (i := 624) (by decide +kernel) (by decide +kernel)
theorem k_L_8 : Cond.constant RL 8 790386105 ∈ AW := aw_of (i := 628) (by decide +kernel) (by decide +kernel)
theorem wd_L_below : wdM ML_below ∈ AW := aw_of (i := 623) (by decide +kernel) (by decide +kernel)
theorem ini_RL : Cond.initialized RL ∈ AW := aw_of (i := 20) (by decide +kernel) (by decide +kernel)
theorem aw_ml_L_9 : Cond.methodLink RL 9 yL_below ∈ AW := aw_of (i := 621) (by decide +kernel) (by decide +kernel)
theorem sm_L_below : Cond.static yL_below ∈ AW := aw_of (i := 622) (by decide +kernel) (by decide +kernel)
theorem lk_L_9 : LKS RL 9 ML_below 2 := ⟨⟨aw_ml_L_9, wd_L_below, ini_RL, by decide +kernel, by decide +kernel, by decide⟩, sm_L_below⟩
theorem k_L_15 : Cond.constant RL 15 1103515245 ∈ AW := aw_of (i := 632) (by decide +kernel) (by decide +kernel)
theorem wd_X8_subsetsOf : wdM MX8_subsetsOf ∈ AW := aw_of (i := 639) (by decide +kernel) (by decide +kernel)
theorem aw_ml_L_16 : Cond.methodLink RL 16 yX8_subsetsOf ∈ AW := aw_of (i := 636) (by decide +kernel) (by decide +kernel)
theorem im_X8_subsetsOf : Cond.instanceMethod yX8_subsetsOf ∈ AW := aw_of (i := 637) (by decide +kernel) (by decide +kernel)
theorem se_X8_subsetsOf : Cond.selects RX8 yX8_subsetsOf yX8_subsetsOf ∈ AW := aw_of (i := 638) (by decide +kernel) (by decide +kernel)
theorem lk_L_16 : LKV RL 16 MX8_subsetsOf 2 6 := ⟨⟨aw_ml_L_16, wd_X8_subsetsOf, ini_RX8, by decide +kernel, by decide +kernel, by decide⟩, im_X8_subsetsOf, _, _, _, _, cls_6, se_X8_subsetsOf⟩
theorem wd_L_has : wdM ML_has ∈ AW := aw_of (i := 648) (by decide +kernel) (by decide +kernel)
theorem aw_ml_L_21 : Cond.methodLink RL 21 yL_has ∈ AW := aw_of (i := 646) (by decide +kernel) (by decide +kernel)
theorem sm_L_has : Cond.static yL_has ∈ AW := aw_of (i := 647) (by decide +kernel) (by decide +kernel)
theorem lk_L_21 : LKS RL 21 ML_has 2 := ⟨⟨aw_ml_L_21, wd_L_has, ini_RL, by decide +kernel, by decide +kernel, by decide⟩, sm_L_has⟩
theorem wd_X8_single : wdM MX8_single ∈ AW := aw_of (i := 230) (by decide +kernel) (by decide +kernel)
theorem aw_ml_L_25 : Cond.methodLink RL 25 yX8_single ∈ AW := aw_of (i := 227) (by decide +kernel) (by decide +kernel)
theorem im_X8_single : Cond.instanceMethod yX8_single ∈ AW := aw_of (i := 228) (by decide +kernel) (by decide +kernel)
theorem se_X8_single : Cond.selects RX8 yX8_single yX8_single ∈ AW := aw_of (i := 229) (by decide +kernel) (by decide +kernel)
theorem lk_L_25 : LKV RL 25 MX8_single 1 6 := ⟨⟨aw_ml_L_25, wd_X8_single, ini_RX8, by decide +kernel, by decide +kernel, by decide⟩, im_X8_single, _, _, _, _, cls_6, se_X8_single⟩
theorem wd_X8_union : wdM MX8_union ∈ AW := aw_of (i := 455) (by decide +kernel) (by decide +kernel)
theorem aw_ml_L_29 : Cond.methodLink RL 29 yX8_union ∈ AW := aw_of (i := 452) (by decide +kernel) (by decide +kernel)
theorem im_X8_union : Cond.instanceMethod yX8_union ∈ AW := aw_of (i := 453) (by decide +kernel) (by decide +kernel)
theorem se_X8_union : Cond.selects RX8 yX8_union yX8_union ∈ AW := aw_of (i := 454) (by decide +kernel) (by decide +kernel)
theorem lk_L_29 : LKV RL 29 MX8_union 2 6 := ⟨⟨aw_ml_L_29, wd_X8_union, ini_RX8, by decide +kernel, by decide +kernel, by decide⟩, im_X8_union, _, _, _, _, cls_6, se_X8_union⟩
theorem wd_X8_count : wdM MX8_count ∈ AW := aw_of (i := 655) (by decide +kernel) (by decide +kernel)
theorem aw_ml_L_32 : Cond.methodLink RL 32 yX8_count ∈ AW := aw_of (i := 652) (by decide +kernel) (by decide +kernel)
theorem im_X8_count : Cond.instanceMethod yX8_count ∈ AW := aw_of (i := 653) (by decide +kernel) (by decide +kernel)
theorem se_X8_count : Cond.selects RX8 yX8_count yX8_count ∈ AW := aw_of (i := 654) (by decide +kernel) (by decide +kernel)
theorem lk_L_32 : LKV RL 32 MX8_count 1 6 := ⟨⟨aw_ml_L_32, wd_X8_count, ini_RX8, by decide +kernel, by decide +kernel, by decide⟩, im_X8_count, _, _, _, _, cls_6, se_X8_count⟩
theorem aw_ml_L_35 : Cond.methodLink RL 35 yJ13_bitCount_95d88 ∈ AW := aw_of (i := 656) (by decide +kernel) (by decide +kernel)
theorem lk_L_35 : LKS RL 35 MJ13_bitCount_95d88 1 := ⟨⟨aw_ml_L_35, wd_J13_bitCount_95d88, ini_RJ13, by decide +kernel, by decide +kernel, by decide⟩, sm_J13_bitCount_95d88⟩
theorem wd_X8_contains : wdM MX8_contains ∈ AW := aw_of (i := 660) (by decide +kernel) (by decide +kernel)
theorem aw_ml_L_41 : Cond.methodLink RL 41 yX8_contains ∈ AW := aw_of (i := 657) (by decide +kernel) (by decide +kernel)
theorem im_X8_contains : Cond.instanceMethod yX8_contains ∈ AW := aw_of (i := 658) (by decide +kernel) (by decide +kernel)
theorem se_X8_contains : Cond.selects RX8 yX8_contains yX8_contains ∈ AW := aw_of (i := 659) (by decide +kernel) (by decide +kernel)
theorem lk_L_41 : LKV RL 41 MX8_contains 2 6 := ⟨⟨aw_ml_L_41, wd_X8_contains, ini_RX8, by decide +kernel, by decide +kernel, by decide⟩, im_X8_contains, _, _, _, _, cls_6, se_X8_contains⟩
theorem wd_L_extreme : wdM ML_extreme ∈ AW := aw_of (i := 670) (by decide +kernel) (by decide +kernel)
theorem aw_ml_L_45 : Cond.methodLink RL 45 yL_extreme ∈ AW := aw_of (i := 668) (by decide +kernel) (by decide +kernel)
theorem sm_L_extreme : Cond.static yL_extreme ∈ AW := aw_of (i := 669) (by decide +kernel) (by decide +kernel)
theorem lk_L_45 : LKS RL 45 ML_extreme 2 := ⟨⟨aw_ml_L_45, wd_L_extreme, ini_RL, by decide +kernel, by decide +kernel, by decide⟩, sm_L_extreme⟩
theorem aw_cl_L_17 : Cond.classLink RL 17 RX8 ∈ AW := aw_of (i := 43) (by decide +kernel) (by decide +kernel)
theorem nl_L_17 : NL RL 17 6 := ⟨_, _, _, _, cls_6, aw_cl_L_17⟩
theorem wd_X8_init : wdM MX8_init ∈ AW := aw_of (i := 47) (by decide +kernel) (by decide +kernel)
theorem aw_ml_L_49 : Cond.methodLink RL 49 yX8_init ∈ AW := aw_of (i := 45) (by decide +kernel) (by decide +kernel)
theorem im_X8_init : Cond.instanceMethod yX8_init ∈ AW := aw_of (i := 46) (by decide +kernel) (by decide +kernel)
theorem lk_L_49 : LKI RL 49 MX8_init 0 := ⟨⟨aw_ml_L_49, wd_X8_init, ini_RX8, by decide +kernel, by decide +kernel, by decide⟩, im_X8_init, rfl⟩
theorem wd_L_cell : wdM ML_cell ∈ AW := aw_of (i := 627) (by decide +kernel) (by decide +kernel)
theorem aw_ml_L_50 : Cond.methodLink RL 50 yL_cell ∈ AW := aw_of (i := 625) (by decide +kernel) (by decide +kernel)
theorem sm_L_cell : Cond.static yL_cell ∈ AW := aw_of (i := 626) (by decide +kernel) (by decide +kernel)
theorem lk_L_50 : LKS RL 50 ML_cell 2 := ⟨⟨aw_ml_L_50, wd_L_cell, ini_RL, by decide +kernel, by decide +kernel, by decide⟩, sm_L_cell⟩
theorem wd_L_choose : wdM ML_choose ∈ AW := aw_of (i := 631) (by decide +kernel) (by decide +kernel)
theorem aw_ml_L_54 : Cond.methodLink RL 54 yL_choose ∈ AW := aw_of (i := 629) (by decide +kernel) (by decide +kernel)
theorem sm_L_choose : Cond.static yL_choose ∈ AW := aw_of (i := 630) (by decide +kernel) (by decide +kernel)
theorem lk_L_54 : LKS RL 54 ML_choose 1 := ⟨⟨aw_ml_L_54, wd_L_choose, ini_RL, by decide +kernel, by decide +kernel, by decide⟩, sm_L_choose⟩
theorem wd_L_make : wdM ML_make ∈ AW := aw_of (i := 635) (by decide +kernel) (by decide +kernel)
theorem aw_ml_L_58 : Cond.methodLink RL 58 yL_make ∈ AW := aw_of (i := 633) (by decide +kernel) (by decide +kernel)
theorem sm_L_make : Cond.static yL_make ∈ AW := aw_of (i := 634) (by decide +kernel) (by decide +kernel)
theorem lk_L_58 : LKS RL 58 ML_make 2 := ⟨⟨aw_ml_L_58, wd_L_make, ini_RL, by decide +kernel, by decide +kernel, by decide⟩, sm_L_make⟩
theorem k_L_62 : Cond.constantLong RL 62 (-1) ∈ AW := aw_of (i := 674) (by decide +kernel) (by decide +kernel)
theorem wd_L_join : wdM ML_join ∈ AW := aw_of (i := 664) (by decide +kernel) (by decide +kernel)
theorem aw_ml_L_64 : Cond.methodLink RL 64 yL_join ∈ AW := aw_of (i := 662) (by decide +kernel) (by decide +kernel)
theorem sm_L_join : Cond.static yL_join ∈ AW := aw_of (i := 663) (by decide +kernel) (by decide +kernel)
theorem lk_L_64 : LKS RL 64 ML_join 2 := ⟨⟨aw_ml_L_64, wd_L_join, ini_RL, by decide +kernel, by decide +kernel, by decide⟩, sm_L_join⟩
theorem wd_L_quotient : wdM ML_quotient ∈ AW := aw_of (i := 667) (by decide +kernel) (by decide +kernel)
theorem aw_ml_L_68 : Cond.methodLink RL 68 yL_quotient ∈ AW := aw_of (i := 665) (by decide +kernel) (by decide +kernel)
theorem sm_L_quotient : Cond.static yL_quotient ∈ AW := aw_of (i := 666) (by decide +kernel) (by decide +kernel)
theorem lk_L_68 : LKS RL 68 ML_quotient 2 := ⟨⟨aw_ml_L_68, wd_L_quotient, ini_RL, by decide +kernel, by decide +kernel, by decide⟩, sm_L_quotient⟩
theorem k_L_71 : Cond.constantLong RL 71 (-2) ∈ AW := aw_of (i := 675) (by decide +kernel) (by decide +kernel)
theorem wd_L_hitting : wdM ML_hitting ∈ AW := aw_of (i := 673) (by decide +kernel) (by decide +kernel)
theorem aw_ml_L_73 : Cond.methodLink RL 73 yL_hitting ∈ AW := aw_of (i := 671) (by decide +kernel) (by decide +kernel)
theorem sm_L_hitting : Cond.static yL_hitting ∈ AW := aw_of (i := 672) (by decide +kernel) (by decide +kernel)
theorem lk_L_73 : LKS RL 73 ML_hitting 1 := ⟨⟨aw_ml_L_73, wd_L_hitting, ini_RL, by decide +kernel, by decide +kernel, by decide⟩, sm_L_hitting⟩
theorem wd_X8_difference : wdM MX8_difference ∈ AW := aw_of (i := 564) (by decide +kernel) (by decide +kernel)
theorem aw_ml_L_77 : Cond.methodLink RL 77 yX8_difference ∈ AW := aw_of (i := 561) (by decide +kernel) (by decide +kernel)
theorem im_X8_difference : Cond.instanceMethod yX8_difference ∈ AW := aw_of (i := 562) (by decide +kernel) (by decide +kernel)
theorem se_X8_difference : Cond.selects RX8 yX8_difference yX8_difference ∈ AW := aw_of (i := 563) (by decide +kernel) (by decide +kernel)
theorem lk_L_77 : LKV RL 77 MX8_difference 2 6 := ⟨⟨aw_ml_L_77, wd_X8_difference, ini_RX8, by decide +kernel, by decide +kernel, by decide⟩, im_X8_difference, _, _, _, _, cls_6, se_X8_difference⟩
theorem wd_X8_intersection : wdM MX8_intersection ∈ AW := aw_of (i := 560) (by decide +kernel) (by decide +kernel)
theorem aw_ml_L_80 : Cond.methodLink RL 80 yX8_intersection ∈ AW := aw_of (i := 557) (by decide +kernel) (by decide +kernel)
theorem im_X8_intersection : Cond.instanceMethod yX8_intersection ∈ AW := aw_of (i := 558) (by decide +kernel) (by decide +kernel)
theorem se_X8_intersection : Cond.selects RX8 yX8_intersection yX8_intersection ∈ AW := aw_of (i := 559) (by decide +kernel) (by decide +kernel)
theorem lk_L_80 : LKV RL 80 MX8_intersection 2 6 := ⟨⟨aw_ml_L_80, wd_X8_intersection, ini_RX8, by decide +kernel, by decide +kernel, by decide⟩, im_X8_intersection, _, _, _, _, cls_6, se_X8_intersection⟩
theorem wd_X8_join : wdM MX8_join ∈ AW := aw_of (i := 568) (by decide +kernel) (by decide +kernel)
theorem aw_ml_L_83 : Cond.methodLink RL 83 yX8_join ∈ AW := aw_of (i := 565) (by decide +kernel) (by decide +kernel)
theorem im_X8_join : Cond.instanceMethod yX8_join ∈ AW := aw_of (i := 566) (by decide +kernel) (by decide +kernel)
theorem se_X8_join : Cond.selects RX8 yX8_join yX8_join ∈ AW := aw_of (i := 567) (by decide +kernel) (by decide +kernel)
theorem lk_L_83 : LKV RL 83 MX8_join 2 6 := ⟨⟨aw_ml_L_83, wd_X8_join, ini_RX8, by decide +kernel, by decide +kernel, by decide⟩, im_X8_join, _, _, _, _, cls_6, se_X8_join⟩
theorem wd_X8_quotient : wdM MX8_quotient ∈ AW := aw_of (i := 572) (by decide +kernel) (by decide +kernel)
theorem aw_ml_L_85 : Cond.methodLink RL 85 yX8_quotient ∈ AW := aw_of (i := 569) (by decide +kernel) (by decide +kernel)
theorem im_X8_quotient : Cond.instanceMethod yX8_quotient ∈ AW := aw_of (i := 570) (by decide +kernel) (by decide +kernel)
theorem se_X8_quotient : Cond.selects RX8 yX8_quotient yX8_quotient ∈ AW := aw_of (i := 571) (by decide +kernel) (by decide +kernel)
theorem lk_L_85 : LKV RL 85 MX8_quotient 2 6 := ⟨⟨aw_ml_L_85, wd_X8_quotient, ini_RX8, by decide +kernel, by decide +kernel, by decide⟩, im_X8_quotient, _, _, _, _, cls_6, se_X8_quotient⟩
theorem wd_X8_remainder : wdM MX8_remainder ∈ AW := aw_of (i := 576) (by decide +kernel) (by decide +kernel)
theorem aw_ml_L_87 : Cond.methodLink RL 87 yX8_remainder ∈ AW := aw_of (i := 573) (by decide +kernel) (by decide +kernel)
theorem im_X8_remainder : Cond.instanceMethod yX8_remainder ∈ AW := aw_of (i := 574) (by decide +kernel) (by decide +kernel)
theorem se_X8_remainder : Cond.selects RX8 yX8_remainder yX8_remainder ∈ AW := aw_of (i := 575) (by decide +kernel) (by decide +kernel)
theorem lk_L_87 : LKV RL 87 MX8_remainder 2 6 := ⟨⟨aw_ml_L_87, wd_X8_remainder, ini_RX8, by decide +kernel, by decide +kernel, by decide⟩, im_X8_remainder, _, _, _, _, cls_6, se_X8_remainder⟩
theorem wd_X8_minimal : wdM MX8_minimal ∈ AW := aw_of (i := 609) (by decide +kernel) (by decide +kernel)
theorem aw_ml_L_90 : Cond.methodLink RL 90 yX8_minimal ∈ AW := aw_of (i := 606) (by decide +kernel) (by decide +kernel)
theorem im_X8_minimal : Cond.instanceMethod yX8_minimal ∈ AW := aw_of (i := 607) (by decide +kernel) (by decide +kernel)
theorem se_X8_minimal : Cond.selects RX8 yX8_minimal yX8_minimal ∈ AW := aw_of (i := 608) (by decide +kernel) (by decide +kernel)
theorem lk_L_90 : LKV RL 90 MX8_minimal 1 6 := ⟨⟨aw_ml_L_90, wd_X8_minimal, ini_RX8, by decide +kernel, by decide +kernel, by decide⟩, im_X8_minimal, _, _, _, _, cls_6, se_X8_minimal⟩
theorem wd_X8_maximal : wdM MX8_maximal ∈ AW := aw_of (i := 580) (by decide +kernel) (by decide +kernel)
theorem aw_ml_L_93 : Cond.methodLink RL 93 yX8_maximal ∈ AW := aw_of (i := 577) (by decide +kernel) (by decide +kernel)
theorem im_X8_maximal : Cond.instanceMethod yX8_maximal ∈ AW := aw_of (i := 578) (by decide +kernel) (by decide +kernel)
theorem se_X8_maximal : Cond.selects RX8 yX8_maximal yX8_maximal ∈ AW := aw_of (i := 579) (by decide +kernel) (by decide +kernel)
theorem lk_L_93 : LKV RL 93 MX8_maximal 1 6 := ⟨⟨aw_ml_L_93, wd_X8_maximal, ini_RX8, by decide +kernel, by decide +kernel, by decide⟩, im_X8_maximal, _, _, _, _, cls_6, se_X8_maximal⟩
theorem wd_X8_hitting : wdM MX8_hitting ∈ AW := aw_of (i := 613) (by decide +kernel) (by decide +kernel)
theorem aw_ml_L_96 : Cond.methodLink RL 96 yX8_hitting ∈ AW := aw_of (i := 610) (by decide +kernel) (by decide +kernel)
theorem im_X8_hitting : Cond.instanceMethod yX8_hitting ∈ AW := aw_of (i := 611) (by decide +kernel) (by decide +kernel)
theorem se_X8_hitting : Cond.selects RX8 yX8_hitting yX8_hitting ∈ AW := aw_of (i := 612) (by decide +kernel) (by decide +kernel)
theorem lk_L_96 : LKV RL 96 MX8_hitting 1 6 := ⟨⟨aw_ml_L_96, wd_X8_hitting, ini_RX8, by decide +kernel, by decide +kernel, by decide⟩, im_X8_hitting, _, _, _, _, cls_6, se_X8_hitting⟩
theorem wd_L_is : wdM ML_is ∈ AW := aw_of (i := 651) (by decide +kernel) (by decide +kernel)
theorem aw_ml_L_98 : Cond.methodLink RL 98 yL_is ∈ AW := aw_of (i := 649) (by decide +kernel) (by decide +kernel)
theorem sm_L_is : Cond.static yL_is ∈ AW := aw_of (i := 650) (by decide +kernel) (by decide +kernel)
theorem lk_L_98 : LKS RL 98 ML_is 3 := ⟨⟨aw_ml_L_98, wd_L_is, ini_RL, by decide +kernel, by decide +kernel, by decide⟩, sm_L_is⟩
theorem wd_X8_release : wdM MX8_release ∈ AW := aw_of (i := 413) (by decide +kernel) (by decide +kernel)
theorem aw_ml_L_102 : Cond.methodLink RL 102 yX8_release ∈ AW := aw_of (i := 410) (by decide +kernel) (by decide +kernel)
theorem im_X8_release : Cond.instanceMethod yX8_release ∈ AW := aw_of (i := 411) (by decide +kernel) (by decide +kernel)
theorem se_X8_release : Cond.selects RX8 yX8_release yX8_release ∈ AW := aw_of (i := 412) (by decide +kernel) (by decide +kernel)
theorem lk_L_102 : LKV RL 102 MX8_release 1 6 := ⟨⟨aw_ml_L_102, wd_X8_release, ini_RX8, by decide +kernel, by decide +kernel, by decide⟩, im_X8_release, _, _, _, _, cls_6, se_X8_release⟩
theorem wd_X8_areEqual : wdM MX8_areEqual ∈ AW := aw_of (i := 617) (by decide +kernel) (by decide +kernel)
theorem aw_ml_L_105 : Cond.methodLink RL 105 yX8_areEqual ∈ AW := aw_of (i := 614) (by decide +kernel) (by decide +kernel)
theorem im_X8_areEqual : Cond.instanceMethod yX8_areEqual ∈ AW := aw_of (i := 615) (by decide +kernel) (by decide +kernel)
theorem se_X8_areEqual : Cond.selects RX8 yX8_areEqual yX8_areEqual ∈ AW := aw_of (i := 616) (by decide +kernel) (by decide +kernel)
theorem lk_L_105 : LKV RL 105 MX8_areEqual 2 6 := ⟨⟨aw_ml_L_105, wd_X8_areEqual, ini_RX8, by decide +kernel, by decide +kernel, by decide⟩, im_X8_areEqual, _, _, _, _, cls_6, se_X8_areEqual⟩
theorem ao_F : Cond.arrayOver (.object RX4) ∈ lw_tbl := List.mem_of_getElem? (i := 52) (by decide +kernel)
theorem ao_J : Cond.arrayOver (.array .long) ∈ lw_tbl := List.mem_of_getElem? (i := 151) (by decide +kernel)
