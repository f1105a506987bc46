set_option maxRecDepth 100000 in
theorem rw_0 : k_X0_init.all (chk prog_2_method_1_code 0 true 0) = true := by decide +kernel
set_option maxRecDepth 100000 in
theorem rw_1 : k_X0_join.all (chk prog_2_method_2_code 0 false 0) = true := by decide +kernel
set_option maxRecDepth 100000 in
theorem rw_2 : k_X0_part.all (chk prog_2_method_3_code 0 false 0) = true := by decide +kernel
set_option maxRecDepth 100000 in
theorem rw_3 : k_X0_listArcs.all (chk prog_2_method_4_code 0 false 1) = true := by decide +kernel
set_option maxRecDepth 100000 in
theorem rw_4 : k_X0_link.all (chk prog_2_method_5_code 0 false 0) = true := by decide +kernel
set_option maxRecDepth 100000 in
theorem rw_5 : k_X0_stand.all (chk prog_2_method_6_code 0 false 0) = true := by decide +kernel
set_option maxRecDepth 100000 in
theorem rw_6 : k_X0_putDown.all (chk prog_2_method_7_code 0 false 1) = true := by decide +kernel
set_option maxRecDepth 100000 in
theorem rw_7 : k_X0_bindTo.all (chk prog_2_method_8_code 0 false 0) = true := by decide +kernel
set_option maxRecDepth 100000 in
theorem rw_8 : k_X0_strongest.all (chk prog_2_method_9_code 0 false 1) = true := by decide +kernel
set_option maxRecDepth 100000 in
theorem rw_9 : k_X0_savedBy.all (chk prog_2_method_10_code 0 false 1) = true := by decide +kernel
set_option maxRecDepth 100000 in
theorem rw_10 : k_X0_keepNumbers.all (chk prog_2_method_11_code 0 false 0) = true := by decide +kernel
set_option maxRecDepth 100000 in
theorem rw_11 : k_X0_markCold.all (chk prog_2_method_12_code 0 false 0) = true := by decide +kernel
set_option maxRecDepth 100000 in
theorem rw_12 : k_X0_warm.all (chk prog_2_method_13_code 0 false 0) = true := by decide +kernel
set_option maxRecDepth 100000 in
theorem rw_13 : k_X1_init.all (chk prog_3_method_1_code 1 true 0) = true := by decide +kernel
set_option maxRecDepth 100000 in
theorem rw_14 : k_X1_gather.all (chk prog_3_method_2_code 1 false 0) = true := by decide +kernel
set_option maxRecDepth 100000 in
theorem rw_15 : k_X1_pull.all (chk prog_3_method_3_code 1 false 1) = true := by decide +kernel
set_option maxRecDepth 100000 in
theorem rw_16 : k_X1_seekCaller.all (chk prog_3_method_4_code 1 false 1) = true := by decide +kernel
set_option maxRecDepth 100000 in
theorem rw_17 : k_X1_joinCaller.all (chk prog_3_method_5_code 1 false 0) = true := by decide +kernel
set_option maxRecDepth 100000 in
theorem rw_18 : k_X1_lastOf.all (chk prog_3_method_6_code 1 false 1) = true := by decide +kernel
set_option maxRecDepth 100000 in
theorem rw_19 : k_X1_standByDensity.all (chk prog_3_method_7_code 1 false 0) = true := by decide +kernel
set_option maxRecDepth 100000 in
theorem rw_20 : k_X1_isListed.all (chk prog_3_method_8_code 1 false 2) = true := by decide +kernel
set_option maxRecDepth 100000 in
theorem rw_21 : k_X1_standByTrace.all (chk prog_3_method_9_code 1 false 0) = true := by decide +kernel
set_option maxRecDepth 100000 in
theorem rw_22 : k_X2_init.all (chk prog_4_method_1_code 2 true 0) = true := by decide +kernel
set_option maxRecDepth 100000 in
theorem rw_23 : k_X2_mend.all (chk prog_4_method_2_code 2 false 0) = true := by decide +kernel
set_option maxRecDepth 100000 in
theorem rw_24 : k_X2_listArcs.all (chk prog_4_method_3_code 2 false 1) = true := by decide +kernel
set_option maxRecDepth 100000 in
theorem rw_25 : k_X2_loosen.all (chk prog_4_method_4_code 2 false 0) = true := by decide +kernel
set_option maxRecDepth 100000 in
theorem rw_26 : k_X2_loosenNode.all (chk prog_4_method_5_code 2 false 0) = true := by decide +kernel
set_option maxRecDepth 100000 in
theorem rw_27 : k_X2_nodeOf.all (chk prog_4_method_6_code 2 false 1) = true := by decide +kernel
set_option maxRecDepth 100000 in
theorem rw_28 : k_X2_look.all (chk prog_4_method_7_code 2 false 0) = true := by decide +kernel
set_option maxRecDepth 100000 in
theorem rw_29 : k_X2_bind.all (chk prog_4_method_8_code 2 false 0) = true := by decide +kernel
set_option maxRecDepth 100000 in
theorem rw_30 : k_X2_carry.all (chk prog_4_method_9_code 2 false 0) = true := by decide +kernel
set_option maxRecDepth 100000 in
theorem rw_31 : k_X2_solveSome.all (chk prog_4_method_10_code 2 false 2) = true := by decide +kernel
set_option maxRecDepth 100000 in
theorem rw_32 : k_X2_solve.all (chk prog_4_method_11_code 2 false 2) = true := by decide +kernel
set_option maxRecDepth 100000 in
theorem rw_33 : k_X2_worth.all (chk prog_4_method_12_code 2 false 1) = true := by decide +kernel
set_option maxRecDepth 100000 in
theorem rw_34 : k_X2_warmth.all (chk prog_4_method_13_code 2 false 1) = true := by decide +kernel
set_option maxRecDepth 100000 in
theorem rw_35 : k_X2_saved.all (chk prog_4_method_14_code 2 false 1) = true := by decide +kernel
set_option maxRecDepth 100000 in
theorem rw_36 : k_X2_worthOf.all (chk prog_4_method_15_code 2 false 1) = true := by decide +kernel
set_option maxRecDepth 100000 in
theorem rw_37 : k_X2_allWorth.all (chk prog_4_method_16_code 2 false 1) = true := by decide +kernel
set_option maxRecDepth 100000 in
theorem rw_38 : k_X2_broken.all (chk prog_4_method_17_code 2 false 1) = true := by decide +kernel
set_option maxRecDepth 100000 in
theorem rw_39 : k_X2_mending.all (chk prog_4_method_18_code 2 false 1) = true := by decide +kernel
set_option maxRecDepth 100000 in
theorem rw_40 : k_X3_init.all (chk prog_5_method_1_code 3 true 0) = true := by decide +kernel
set_option maxRecDepth 100000 in
theorem rw_41 : k_X3_keep.all (chk prog_5_method_2_code 3 false 0) = true := by decide +kernel
set_option maxRecDepth 100000 in
theorem rw_42 : k_X3_bringBack.all (chk prog_5_method_3_code 3 false 0) = true := by decide +kernel
set_option maxRecDepth 100000 in
theorem rw_43 : k_X4_init.all (chk prog_6_method_1_code 4 true 0) = true := by decide +kernel
set_option maxRecDepth 100000 in
theorem rw_44 : k_X4_byLine.all (chk prog_6_method_2_code 4 false 0) = true := by decide +kernel
set_option maxRecDepth 100000 in
theorem rw_45 : k_X4_byFunctions.all (chk prog_6_method_3_code 4 false 0) = true := by decide +kernel
set_option maxRecDepth 100000 in
theorem rw_46 : k_X4_append.all (chk prog_6_method_4_code 4 false 1) = true := by decide +kernel
set_option maxRecDepth 100000 in
theorem rw_47 : k_X4_measure.all (chk prog_6_method_5_code 4 false 0) = true := by decide +kernel
set_option maxRecDepth 100000 in
theorem rw_48 : k_X4_needsJump.all (chk prog_6_method_6_code 4 false 2) = true := by decide +kernel
set_option maxRecDepth 100000 in
theorem rw_49 : k_X4_isFall.all (chk prog_6_method_7_code 4 false 2) = true := by decide +kernel
set_option maxRecDepth 100000 in
theorem rw_50 : k_X4_isLine.all (chk prog_6_method_8_code 4 false 2) = true := by decide +kernel
set_option maxRecDepth 100000 in
theorem rw_51 : k_X4_jumpsBy.all (chk prog_6_method_9_code 4 false 1) = true := by decide +kernel
set_option maxRecDepth 100000 in
theorem rw_52 : k_X4_jumpsOf.all (chk prog_6_method_10_code 4 false 1) = true := by decide +kernel
set_option maxRecDepth 100000 in
theorem rw_53 : k_X4_allJumps.all (chk prog_6_method_11_code 4 false 1) = true := by decide +kernel
set_option maxRecDepth 100000 in
theorem rw_54 : k_X4_fallCount.all (chk prog_6_method_12_code 4 false 1) = true := by decide +kernel
set_option maxRecDepth 100000 in
theorem rw_55 : k_X4_turned.all (chk prog_6_method_13_code 4 false 1) = true := by decide +kernel
set_option maxRecDepth 100000 in
theorem rw_56 : k_X4_pageAt.all (chk prog_6_method_14_code 4 false 1) = true := by decide +kernel
set_option maxRecDepth 100000 in
theorem rw_57 : k_X4_firstPage.all (chk prog_6_method_15_code 4 false 1) = true := by decide +kernel
set_option maxRecDepth 100000 in
theorem rw_58 : k_X4_lastPage.all (chk prog_6_method_16_code 4 false 1) = true := by decide +kernel
set_option maxRecDepth 100000 in
theorem rw_59 : k_X4_pageCount.all (chk prog_6_method_17_code 4 false 1) = true := by decide +kernel
set_option maxRecDepth 100000 in
theorem rw_60 : k_X4_touched.all (chk prog_6_method_18_code 4 false 1) = true := by decide +kernel
set_option maxRecDepth 100000 in
theorem rw_61 : k_X4_touch.all (chk prog_6_method_19_code 4 false 0) = true := by decide +kernel
set_option maxRecDepth 100000 in
theorem rw_62 : k_X5_init.all (chk prog_7_method_1_code 5 true 0) = true := by decide +kernel
set_option maxRecDepth 100000 in
theorem rw_63 : k_X5_clear.all (chk prog_7_method_2_code 5 false 0) = true := by decide +kernel
set_option maxRecDepth 100000 in
theorem rw_64 : k_X5_add.all (chk prog_7_method_3_code 5 false 0) = true := by decide +kernel
set_option maxRecDepth 100000 in
theorem rw_65 : k_X6_init.all (chk prog_8_method_1_code 6 true 0) = true := by decide +kernel
set_option maxRecDepth 100000 in
theorem rw_66 : k_X6_leaveOut.all (chk prog_8_method_2_code 6 false 0) = true := by decide +kernel
set_option maxRecDepth 100000 in
theorem rw_67 : k_X6_jumpsAt.all (chk prog_8_method_3_code 6 false 1) = true := by decide +kernel
set_option maxRecDepth 100000 in
theorem rw_68 : k_X6_seekBest.all (chk prog_8_method_4_code 6 false 0) = true := by decide +kernel
