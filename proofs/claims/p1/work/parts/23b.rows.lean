set_option maxRecDepth 100000 in
theorem rw_69 : k_X6_leastJumps.all (chk prog_8_method_5_code 6 false 1) = true := by decide +kernel
set_option maxRecDepth 100000 in
theorem rw_70 : k_X6_extend.all (chk prog_8_method_6_code 6 false 0) = true := by decide +kernel
set_option maxRecDepth 100000 in
theorem rw_71 : k_X7_init.all (chk prog_9_method_1_code 7 true 0) = true := by decide +kernel
set_option maxRecDepth 100000 in
theorem rw_72 : k_X7_clear.all (chk prog_9_method_2_code 7 false 0) = true := by decide +kernel
set_option maxRecDepth 100000 in
theorem rw_73 : k_X7_copy.all (chk prog_9_method_3_code 7 false 0) = true := by decide +kernel
set_option maxRecDepth 100000 in
theorem rw_74 : k_X7_canBe.all (chk prog_9_method_4_code 7 false 2) = true := by decide +kernel
set_option maxRecDepth 100000 in
theorem rw_75 : k_X7_setting.all (chk prog_9_method_5_code 7 false 1) = true := by decide +kernel
set_option maxRecDepth 100000 in
theorem rw_76 : k_X7_change.all (chk prog_9_method_6_code 7 false 0) = true := by decide +kernel
set_option maxRecDepth 100000 in
theorem rw_77 : k_X7_addFunction.all (chk prog_9_method_7_code 7 false 0) = true := by decide +kernel
set_option maxRecDepth 100000 in
theorem rw_78 : k_X7_addBlock.all (chk prog_9_method_8_code 7 false 1) = true := by decide +kernel
set_option maxRecDepth 100000 in
theorem rw_79 : k_X7_addArc.all (chk prog_9_method_9_code 7 false 0) = true := by decide +kernel
set_option maxRecDepth 100000 in
theorem rw_80 : k_X7_listBlocks.all (chk prog_9_method_10_code 7 false 0) = true := by decide +kernel
set_option maxRecDepth 100000 in
theorem rw_81 : k_X7_member.all (chk prog_9_method_11_code 7 false 1) = true := by decide +kernel
set_option maxRecDepth 100000 in
theorem rw_82 : k_X7_entryOf.all (chk prog_9_method_12_code 7 false 1) = true := by decide +kernel
set_option maxRecDepth 100000 in
theorem rw_83 : k_X7_isEntry.all (chk prog_9_method_13_code 7 false 2) = true := by decide +kernel
set_option maxRecDepth 100000 in
theorem rw_84 : k_X7_bytesOf.all (chk prog_9_method_14_code 7 false 1) = true := by decide +kernel
set_option maxRecDepth 100000 in
theorem rw_85 : k_X7_callsOf.all (chk prog_9_method_15_code 7 false 1) = true := by decide +kernel
set_option maxRecDepth 100000 in
theorem rw_86 : k_X7_arcsOf.all (chk prog_9_method_16_code 7 false 1) = true := by decide +kernel
set_option maxRecDepth 100000 in
theorem rw_87 : k_X7_isInside.all (chk prog_9_method_17_code 7 false 2) = true := by decide +kernel
set_option maxRecDepth 100000 in
theorem rw_88 : k_X7_placeInTrace.all (chk prog_9_method_18_code 7 false 1) = true := by decide +kernel
set_option maxRecDepth 100000 in
theorem rw_89 : k_X7_shift.all (chk prog_9_method_19_code 7 false 0) = true := by decide +kernel
set_option maxRecDepth 100000 in
theorem rw_90 : k_X8_init.all (chk prog_10_method_1_code 8 true 0) = true := by decide +kernel
set_option maxRecDepth 100000 in
theorem rw_91 : k_X8_read.all (chk prog_10_method_2_code 8 false 0) = true := by decide +kernel
set_option maxRecDepth 100000 in
theorem rw_92 : k_X8_refuseToken.all (chk prog_10_method_3_code 8 false 2) = true := by decide +kernel
set_option maxRecDepth 100000 in
theorem rw_93 : k_X8_readFunction.all (chk prog_10_method_4_code 8 false 2) = true := by decide +kernel
set_option maxRecDepth 100000 in
theorem rw_94 : k_X8_readOther.all (chk prog_10_method_5_code 8 false 2) = true := by decide +kernel
set_option maxRecDepth 100000 in
theorem rw_95 : k_X8_readSetting.all (chk prog_10_method_6_code 8 false 2) = true := by decide +kernel
set_option maxRecDepth 100000 in
theorem rw_96 : k_X8_readTrace.all (chk prog_10_method_7_code 8 false 2) = true := by decide +kernel
set_option maxRecDepth 100000 in
theorem rw_97 : k_X8_passTraced.all (chk prog_10_method_8_code 8 false 2) = true := by decide +kernel
set_option maxRecDepth 100000 in
theorem rw_98 : k_X8_readBlock.all (chk prog_10_method_9_code 8 false 2) = true := by decide +kernel
set_option maxRecDepth 100000 in
theorem rw_99 : k_X8_readCalls.all (chk prog_10_method_10_code 8 false 2) = true := by decide +kernel
set_option maxRecDepth 100000 in
theorem rw_100 : k_X8_readEnd.all (chk prog_10_method_11_code 8 false 2) = true := by decide +kernel
set_option maxRecDepth 100000 in
theorem rw_101 : k_X8_readWay.all (chk prog_10_method_12_code 8 false 2) = true := by decide +kernel
set_option maxRecDepth 100000 in
theorem rw_102 : k_X8_passNumber.all (chk prog_10_method_13_code 8 false 2) = true := by decide +kernel
set_option maxRecDepth 100000 in
theorem rw_103 : k_X8_passSign.all (chk prog_10_method_14_code 8 false 2) = true := by decide +kernel
set_option maxRecDepth 100000 in
theorem rw_104 : k_X8_passNewName.all (chk prog_10_method_15_code 8 false 2) = true := by decide +kernel
set_option maxRecDepth 100000 in
theorem rw_105 : k_X8_passHeldName.all (chk prog_10_method_16_code 8 false 2) = true := by decide +kernel
set_option maxRecDepth 100000 in
theorem rw_106 : k_X8_isHeldName.all (chk prog_10_method_17_code 8 false 2) = true := by decide +kernel
set_option maxRecDepth 100000 in
theorem rw_107 : k_X8_seekHolder.all (chk prog_10_method_18_code 8 false 1) = true := by decide +kernel
set_option maxRecDepth 100000 in
theorem rw_108 : k_X8_finish.all (chk prog_10_method_19_code 8 false 0) = true := by decide +kernel
set_option maxRecDepth 100000 in
theorem rw_109 : k_X8_aim.all (chk prog_10_method_20_code 8 false 0) = true := by decide +kernel
set_option maxRecDepth 100000 in
theorem rw_110 : k_X9_init.all (chk prog_11_method_1_code 9 true 0) = true := by decide +kernel
set_option maxRecDepth 100000 in
theorem rw_111 : k_X9_begin.all (chk prog_11_method_2_code 9 false 0) = true := by decide +kernel
set_option maxRecDepth 100000 in
theorem rw_112 : k_X9_next.all (chk prog_11_method_3_code 9 false 0) = true := by decide +kernel
set_option maxRecDepth 100000 in
theorem rw_113 : k_X9_readWord.all (chk prog_11_method_4_code 9 false 0) = true := by decide +kernel
set_option maxRecDepth 100000 in
theorem rw_114 : k_X9_readNumber.all (chk prog_11_method_5_code 9 false 0) = true := by decide +kernel
set_option maxRecDepth 100000 in
theorem rw_115 : k_X9_isWord.all (chk prog_11_method_6_code 9 false 2) = true := by decide +kernel
set_option maxRecDepth 100000 in
theorem rw_116 : k_X9_isName.all (chk prog_11_method_7_code 9 false 2) = true := by decide +kernel
set_option maxRecDepth 100000 in
theorem rw_117 : k_X10_init.all (chk prog_12_method_1_code 10 true 0) = true := by decide +kernel
set_option maxRecDepth 100000 in
theorem rw_118 : k_X10_follow.all (chk prog_12_method_2_code 10 false 0) = true := by decide +kernel
set_option maxRecDepth 100000 in
theorem rw_119 : k_X10_enter.all (chk prog_12_method_3_code 10 false 0) = true := by decide +kernel
set_option maxRecDepth 100000 in
theorem rw_120 : k_X10_use.all (chk prog_12_method_4_code 10 false 0) = true := by decide +kernel
set_option maxRecDepth 100000 in
theorem rw_121 : k_X10_fetch.all (chk prog_12_method_5_code 10 false 0) = true := by decide +kernel
set_option maxRecDepth 100000 in
theorem rw_122 : k_X10_goOn.all (chk prog_12_method_6_code 10 false 0) = true := by decide +kernel
set_option maxRecDepth 100000 in
theorem rw_123 : k_X10_makeCall.all (chk prog_12_method_7_code 10 false 2) = true := by decide +kernel
set_option maxRecDepth 100000 in
theorem rw_124 : k_X10_leave.all (chk prog_12_method_8_code 10 false 0) = true := by decide +kernel
set_option maxRecDepth 100000 in
theorem rw_125 : k_X10_isFirst.all (chk prog_12_method_9_code 10 false 2) = true := by decide +kernel
set_option maxRecDepth 100000 in
theorem rw_126 : k_X11_init.all (chk prog_1_method_1_code 11 true 0) = true := by decide +kernel
set_option maxRecDepth 100000 in
theorem rw_127 : k_X11_status.all (chk prog_1_method_2_code 11 false 1) = true := by decide +kernel
set_option maxRecDepth 100000 in
theorem rw_128 : k_X11_feed.all (chk prog_1_method_3_code 11 false 1) = true := by decide +kernel
set_option maxRecDepth 100000 in
theorem rw_129 : k_X11_load.all (chk prog_1_method_4_code 11 false 1) = true := by decide +kernel
set_option maxRecDepth 100000 in
theorem rw_130 : k_X11_fault.all (chk prog_1_method_5_code 11 false 1) = true := by decide +kernel
set_option maxRecDepth 100000 in
theorem rw_131 : k_X11_many.all (chk prog_1_method_6_code 11 false 1) = true := by decide +kernel
set_option maxRecDepth 100000 in
theorem rw_132 : k_X11_function.all (chk prog_1_method_7_code 11 false 1) = true := by decide +kernel
set_option maxRecDepth 100000 in
theorem rw_133 : k_X11_block.all (chk prog_1_method_8_code 11 false 1) = true := by decide +kernel
set_option maxRecDepth 100000 in
theorem rw_134 : k_X11_arc.all (chk prog_1_method_9_code 11 false 1) = true := by decide +kernel
