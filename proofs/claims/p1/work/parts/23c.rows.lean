set_option maxRecDepth 100000 in
theorem rw_135 : k_X11_weight.all (chk prog_1_method_10_code 11 false 1) = true := by decide +kernel
set_option maxRecDepth 100000 in
theorem rw_136 : k_X11_order.all (chk prog_1_method_11_code 11 false 1) = true := by decide +kernel
set_option maxRecDepth 100000 in
theorem rw_137 : k_X11_place.all (chk prog_1_method_12_code 11 false 1) = true := by decide +kernel
set_option maxRecDepth 100000 in
theorem rw_138 : k_X11_falls.all (chk prog_1_method_13_code 11 false 1) = true := by decide +kernel
set_option maxRecDepth 100000 in
theorem rw_139 : k_X11_cost.all (chk prog_1_method_14_code 11 false 1) = true := by decide +kernel
set_option maxRecDepth 100000 in
theorem rw_140 : k_X11_jumps.all (chk prog_1_method_15_code 11 false 1) = true := by decide +kernel
set_option maxRecDepth 100000 in
theorem rw_141 : k_X11_least.all (chk prog_1_method_16_code 11 false 1) = true := by decide +kernel
set_option maxRecDepth 100000 in
theorem rw_142 : k_X11_run.all (chk prog_1_method_17_code 11 false 1) = true := by decide +kernel
set_option maxRecDepth 100000 in
theorem rw_143 : k_X11_count.all (chk prog_1_method_18_code 11 false 1) = true := by decide +kernel
set_option maxRecDepth 100000 in
theorem rw_144 : k_X11_set.all (chk prog_1_method_19_code 11 false 1) = true := by decide +kernel
set_option maxRecDepth 100000 in
theorem rw_145 : k_X11_take.all (chk prog_1_method_20_code 11 false 1) = true := by decide +kernel
set_option maxRecDepth 100000 in
theorem rw_146 : k_X11_move.all (chk prog_1_method_21_code 11 false 1) = true := by decide +kernel
set_option maxRecDepth 100000 in
theorem rw_147 : k_X11_undo.all (chk prog_1_method_22_code 11 false 1) = true := by decide +kernel
set_option maxRecDepth 100000 in
theorem rw_148 : k_X11_moved.all (chk prog_1_method_23_code 11 false 1) = true := by decide +kernel
set_option maxRecDepth 100000 in
theorem rw_149 : k_X11_best.all (chk prog_1_method_24_code 11 false 1) = true := by decide +kernel
set_option maxRecDepth 100000 in
theorem rw_150 : k_X11_enough.all (chk prog_1_method_25_code 11 false 1) = true := by decide +kernel
set_option maxRecDepth 100000 in
theorem rw_151 : k_X11_refuse.all (chk prog_1_method_26_code 11 false 1) = true := by decide +kernel
set_option maxRecDepth 100000 in
theorem rw_152 : k_X11_answer.all (chk prog_1_method_27_code 11 false 1) = true := by decide +kernel
set_option maxRecDepth 100000 in
theorem rw_153 : k_X11_isOrder.all (chk prog_1_method_28_code 11 false 2) = true := by decide +kernel
set_option maxRecDepth 100000 in
theorem rw_154 : k_X11_isFunction.all (chk prog_1_method_29_code 11 false 2) = true := by decide +kernel
set_option maxRecDepth 100000 in
theorem rw_155 : k_X11_isBlock.all (chk prog_1_method_30_code 11 false 2) = true := by decide +kernel
set_option maxRecDepth 100000 in
theorem rw_156 : k_X11_isArc.all (chk prog_1_method_31_code 11 false 2) = true := by decide +kernel
set_option maxRecDepth 100000 in
theorem rw_157 : k_X11_isPlace.all (chk prog_1_method_32_code 11 false 2) = true := by decide +kernel
set_option maxRecDepth 100000 in
theorem rw_158 : k_X11_write.all (chk prog_1_method_33_code 11 false 0) = true := by decide +kernel
set_option maxRecDepth 100000 in
theorem rw_159 : k_X11_workOut.all (chk prog_1_method_34_code 11 false 0) = true := by decide +kernel
set_option maxRecDepth 100000 in
theorem rw_160 : k_X11_leastThatFalls.all (chk prog_1_method_35_code 11 false 1) = true := by decide +kernel
set_option maxRecDepth 100000 in
theorem rw_161 : k_X11_tryCount.all (chk prog_1_method_36_code 11 false 0) = true := by decide +kernel
set_option maxRecDepth 100000 in
theorem rw_162 : k_X11_sortDown.all (chk prog_1_method_37_code 11 false 0) = true := by decide +kernel
set_option maxRecDepth 100000 in
theorem rw_163 : k_X12_init.all (chk prog_14_method_1_code 12 true 0) = true := by decide +kernel
set_option maxRecDepth 100000 in
theorem rw_164 : k_X12_status.all (chk prog_14_method_3_code 12 false 1) = true := by decide +kernel
set_option maxRecDepth 100000 in
theorem rw_165 : k_X12_refuse.all (chk prog_14_method_4_code 12 false 1) = true := by decide +kernel
set_option maxRecDepth 100000 in
theorem rw_166 : k_X12_isIn.all (chk prog_14_method_5_code 12 false 2) = true := by decide +kernel
set_option maxRecDepth 100000 in
theorem rw_167 : k_X12_plain.all (chk prog_14_method_6_code 12 false 0) = true := by decide +kernel
set_option maxRecDepth 100000 in
theorem rw_168 : k_X12_copy.all (chk prog_14_method_7_code 12 false 0) = true := by decide +kernel
set_option maxRecDepth 100000 in
theorem rw_169 : k_X12_keeps.all (chk prog_14_method_8_code 12 false 0) = true := by decide +kernel
set_option maxRecDepth 100000 in
theorem rw_170 : k_X12_funs.all (chk prog_14_method_9_code 12 false 1) = true := by decide +kernel
set_option maxRecDepth 100000 in
theorem rw_171 : k_X12_blocks.all (chk prog_14_method_10_code 12 false 1) = true := by decide +kernel
set_option maxRecDepth 100000 in
theorem rw_172 : k_X12_arcs.all (chk prog_14_method_11_code 12 false 1) = true := by decide +kernel
set_option maxRecDepth 100000 in
theorem rw_173 : k_X12_funOf.all (chk prog_14_method_12_code 12 false 1) = true := by decide +kernel
set_option maxRecDepth 100000 in
theorem rw_174 : k_X12_endOf.all (chk prog_14_method_13_code 12 false 1) = true := by decide +kernel
set_option maxRecDepth 100000 in
theorem rw_175 : k_X12_firstArc.all (chk prog_14_method_14_code 12 false 1) = true := by decide +kernel
set_option maxRecDepth 100000 in
theorem rw_176 : k_X12_arcsOf.all (chk prog_14_method_15_code 12 false 1) = true := by decide +kernel
set_option maxRecDepth 100000 in
theorem rw_177 : k_X12_entryOf.all (chk prog_14_method_16_code 12 false 1) = true := by decide +kernel
set_option maxRecDepth 100000 in
theorem rw_178 : k_X12_isEntry.all (chk prog_14_method_17_code 12 false 2) = true := by decide +kernel
set_option maxRecDepth 100000 in
theorem rw_179 : k_X12_whole.all (chk prog_14_method_18_code 12 false 1) = true := by decide +kernel
set_option maxRecDepth 100000 in
theorem rw_180 : k_X12_at.all (chk prog_14_method_19_code 12 false 1) = true := by decide +kernel
set_option maxRecDepth 100000 in
theorem rw_181 : k_X12_funOfArc.all (chk prog_14_method_20_code 12 false 1) = true := by decide +kernel
set_option maxRecDepth 100000 in
theorem rw_182 : k_X12_nextByCount.all (chk prog_14_method_21_code 12 false 1) = true := by decide +kernel
set_option maxRecDepth 100000 in
theorem rw_183 : k_X12_takesArcs.all (chk prog_14_method_22_code 12 false 0) = true := by decide +kernel
set_option maxRecDepth 100000 in
theorem rw_184 : k_X12_openAt.all (chk prog_14_method_23_code 12 false 1) = true := by decide +kernel
set_option maxRecDepth 100000 in
theorem rw_185 : k_X12_overAt.all (chk prog_14_method_24_code 12 false 1) = true := by decide +kernel
set_option maxRecDepth 100000 in
theorem rw_186 : k_X12_laysFlows.all (chk prog_14_method_25_code 12 false 0) = true := by decide +kernel
set_option maxRecDepth 100000 in
theorem rw_187 : k_X12_jumpsIn.all (chk prog_14_method_26_code 12 false 1) = true := by decide +kernel
set_option maxRecDepth 100000 in
theorem rw_188 : k_X12_firstOf.all (chk prog_14_method_27_code 12 false 1) = true := by decide +kernel
set_option maxRecDepth 100000 in
theorem rw_189 : k_X12_nextByFlow.all (chk prog_14_method_28_code 12 false 1) = true := by decide +kernel
set_option maxRecDepth 100000 in
theorem rw_190 : k_X12_joinsChains.all (chk prog_14_method_29_code 12 false 0) = true := by decide +kernel
set_option maxRecDepth 100000 in
theorem rw_191 : k_X12_isIn_.all (chk prog_14_method_30_code 12 false 2) = true := by decide +kernel
set_option maxRecDepth 100000 in
theorem rw_192 : k_X12_between.all (chk prog_14_method_31_code 12 false 1) = true := by decide +kernel
set_option maxRecDepth 100000 in
theorem rw_193 : k_X12_leastIn.all (chk prog_14_method_32_code 12 false 1) = true := by decide +kernel
set_option maxRecDepth 100000 in
theorem rw_194 : k_X12_placesOf.all (chk prog_14_method_33_code 12 false 1) = true := by decide +kernel
set_option maxRecDepth 100000 in
theorem rw_195 : k_X12_nextChain.all (chk prog_14_method_34_code 12 false 1) = true := by decide +kernel
set_option maxRecDepth 100000 in
theorem rw_196 : k_X12_laysChains.all (chk prog_14_method_35_code 12 false 1) = true := by decide +kernel
set_option maxRecDepth 100000 in
theorem rw_197 : k_X12_laysCold.all (chk prog_14_method_36_code 12 false 0) = true := by decide +kernel
set_option maxRecDepth 100000 in
theorem rw_198 : k_X12_weightOf.all (chk prog_14_method_37_code 12 false 1) = true := by decide +kernel
set_option maxRecDepth 100000 in
theorem rw_199 : k_X12_sizesOf.all (chk prog_14_method_38_code 12 false 1) = true := by decide +kernel
set_option maxRecDepth 100000 in
theorem rw_200 : k_X12_entryHeat.all (chk prog_14_method_39_code 12 false 1) = true := by decide +kernel
set_option maxRecDepth 100000 in
theorem rw_201 : k_X12_callerOf.all (chk prog_14_method_40_code 12 false 1) = true := by decide +kernel
set_option maxRecDepth 100000 in
theorem rw_202 : k_X12_sizesIn.all (chk prog_14_method_41_code 12 false 1) = true := by decide +kernel
set_option maxRecDepth 100000 in
theorem rw_203 : k_X12_manyIn.all (chk prog_14_method_42_code 12 false 1) = true := by decide +kernel
set_option maxRecDepth 100000 in
theorem rw_204 : k_X12_joins.all (chk prog_14_method_43_code 12 false 0) = true := by decide +kernel
set_option maxRecDepth 100000 in
theorem rw_205 : k_X12_hottest.all (chk prog_14_method_44_code 12 false 1) = true := by decide +kernel
set_option maxRecDepth 100000 in
theorem rw_206 : k_X12_density.all (chk prog_14_method_45_code 12 false 1) = true := by decide +kernel
