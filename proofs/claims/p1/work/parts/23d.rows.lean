set_option maxRecDepth 100000 in
theorem rw_207 : k_X12_nextCluster.all (chk prog_14_method_46_code 12 false 1) = true := by decide +kernel
set_option maxRecDepth 100000 in
theorem rw_208 : k_X12_laysClusters.all (chk prog_14_method_47_code 12 false 0) = true := by decide +kernel
set_option maxRecDepth 100000 in
theorem rw_209 : k_X12_traceAt.all (chk prog_14_method_48_code 12 false 1) = true := by decide +kernel
set_option maxRecDepth 100000 in
theorem rw_210 : k_X12_laysStart.all (chk prog_14_method_49_code 12 false 0) = true := by decide +kernel
set_option maxRecDepth 100000 in
theorem rw_211 : k_X12_adds.all (chk prog_14_method_50_code 12 false 1) = true := by decide +kernel
set_option maxRecDepth 100000 in
theorem rw_212 : k_X12_laysOrder.all (chk prog_14_method_51_code 12 false 0) = true := by decide +kernel
set_option maxRecDepth 100000 in
theorem rw_213 : k_X12_laysSource.all (chk prog_14_method_52_code 12 false 0) = true := by decide +kernel
set_option maxRecDepth 100000 in
theorem rw_214 : k_X12_laysChained.all (chk prog_14_method_53_code 12 false 0) = true := by decide +kernel
set_option maxRecDepth 100000 in
theorem rw_215 : k_X12_laysAll.all (chk prog_14_method_54_code 12 false 0) = true := by decide +kernel
set_option maxRecDepth 100000 in
theorem rw_216 : k_X12_falls.all (chk prog_14_method_55_code 12 false 2) = true := by decide +kernel
set_option maxRecDepth 100000 in
theorem rw_217 : k_X12_anyFalls.all (chk prog_14_method_56_code 12 false 2) = true := by decide +kernel
set_option maxRecDepth 100000 in
theorem rw_218 : k_X12_stands.all (chk prog_14_method_57_code 12 false 0) = true := by decide +kernel
set_option maxRecDepth 100000 in
theorem rw_219 : k_X12_brings.all (chk prog_14_method_58_code 12 false 0) = true := by decide +kernel
set_option maxRecDepth 100000 in
theorem rw_220 : k_X12_jumpsBy.all (chk prog_14_method_59_code 12 false 1) = true := by decide +kernel
set_option maxRecDepth 100000 in
theorem rw_221 : k_X12_allBytes.all (chk prog_14_method_60_code 12 false 1) = true := by decide +kernel
set_option maxRecDepth 100000 in
theorem rw_222 : k_X12_firstPage.all (chk prog_14_method_61_code 12 false 1) = true := by decide +kernel
set_option maxRecDepth 100000 in
theorem rw_223 : k_X12_lastPage.all (chk prog_14_method_62_code 12 false 1) = true := by decide +kernel
set_option maxRecDepth 100000 in
theorem rw_224 : k_X12_lays.all (chk prog_14_method_63_code 12 false 0) = true := by decide +kernel
set_option maxRecDepth 100000 in
theorem rw_225 : k_X12_feed.all (chk prog_14_method_64_code 12 false 1) = true := by decide +kernel
set_option maxRecDepth 100000 in
theorem rw_226 : k_X12_isOf.all (chk prog_14_method_65_code 12 false 2) = true := by decide +kernel
set_option maxRecDepth 100000 in
theorem rw_227 : k_X12_reads.all (chk prog_14_method_66_code 12 false 0) = true := by decide +kernel
set_option maxRecDepth 100000 in
theorem rw_228 : k_X12_must.all (chk prog_14_method_67_code 12 false 0) = true := by decide +kernel
set_option maxRecDepth 100000 in
theorem rw_229 : k_X12_key.all (chk prog_14_method_68_code 12 false 1) = true := by decide +kernel
set_option maxRecDepth 100000 in
theorem rw_230 : k_X12_takesKey.all (chk prog_14_method_69_code 12 false 0) = true := by decide +kernel
set_option maxRecDepth 100000 in
theorem rw_231 : k_X12_takes.all (chk prog_14_method_70_code 12 false 1) = true := by decide +kernel
set_option maxRecDepth 100000 in
theorem rw_232 : k_X12_isName.all (chk prog_14_method_71_code 12 false 2) = true := by decide +kernel
set_option maxRecDepth 100000 in
theorem rw_233 : k_X12_named.all (chk prog_14_method_72_code 12 false 1) = true := by decide +kernel
set_option maxRecDepth 100000 in
theorem rw_234 : k_X12_known.all (chk prog_14_method_73_code 12 false 1) = true := by decide +kernel
set_option maxRecDepth 100000 in
theorem rw_235 : k_X12_semicolon.all (chk prog_14_method_74_code 12 false 0) = true := by decide +kernel
set_option maxRecDepth 100000 in
theorem rw_236 : k_X12_readsFun.all (chk prog_14_method_75_code 12 false 0) = true := by decide +kernel
set_option maxRecDepth 100000 in
theorem rw_237 : k_X12_readsEnd.all (chk prog_14_method_76_code 12 false 0) = true := by decide +kernel
set_option maxRecDepth 100000 in
theorem rw_238 : k_X12_readsBlock.all (chk prog_14_method_77_code 12 false 0) = true := by decide +kernel
set_option maxRecDepth 100000 in
theorem rw_239 : k_X12_readsTrace.all (chk prog_14_method_78_code 12 false 0) = true := by decide +kernel
set_option maxRecDepth 100000 in
theorem rw_240 : k_X12_readsOnce.all (chk prog_14_method_79_code 12 false 0) = true := by decide +kernel
set_option maxRecDepth 100000 in
theorem rw_241 : k_X12_readsLine.all (chk prog_14_method_80_code 12 false 0) = true := by decide +kernel
set_option maxRecDepth 100000 in
theorem rw_242 : k_X12_blockOf.all (chk prog_14_method_81_code 12 false 1) = true := by decide +kernel
set_option maxRecDepth 100000 in
theorem rw_243 : k_X12_addsArc.all (chk prog_14_method_82_code 12 false 0) = true := by decide +kernel
set_option maxRecDepth 100000 in
theorem rw_244 : k_X12_ends.all (chk prog_14_method_83_code 12 false 0) = true := by decide +kernel
set_option maxRecDepth 100000 in
theorem rw_245 : k_X12_load.all (chk prog_14_method_84_code 12 false 1) = true := by decide +kernel
set_option maxRecDepth 100000 in
theorem rw_246 : k_X12_fault.all (chk prog_14_method_85_code 12 false 1) = true := by decide +kernel
set_option maxRecDepth 100000 in
theorem rw_247 : k_X12_isFun.all (chk prog_14_method_86_code 12 false 2) = true := by decide +kernel
set_option maxRecDepth 100000 in
theorem rw_248 : k_X12_isBlock.all (chk prog_14_method_87_code 12 false 2) = true := by decide +kernel
set_option maxRecDepth 100000 in
theorem rw_249 : k_X12_isArc.all (chk prog_14_method_88_code 12 false 2) = true := by decide +kernel
set_option maxRecDepth 100000 in
theorem rw_250 : k_X12_asks.all (chk prog_14_method_89_code 12 false 2) = true := by decide +kernel
set_option maxRecDepth 100000 in
theorem rw_251 : k_X12_broken.all (chk prog_14_method_90_code 12 false 1) = true := by decide +kernel
set_option maxRecDepth 100000 in
theorem rw_252 : k_X12_mending.all (chk prog_14_method_91_code 12 false 1) = true := by decide +kernel
set_option maxRecDepth 100000 in
theorem rw_253 : k_X12_many.all (chk prog_14_method_92_code 12 false 1) = true := by decide +kernel
set_option maxRecDepth 100000 in
theorem rw_254 : k_X12_blocksOf.all (chk prog_14_method_93_code 12 false 1) = true := by decide +kernel
set_option maxRecDepth 100000 in
theorem rw_255 : k_X12_rowAt.all (chk prog_14_method_94_code 12 false 1) = true := by decide +kernel
set_option maxRecDepth 100000 in
theorem rw_256 : k_X12_function.all (chk prog_14_method_95_code 12 false 1) = true := by decide +kernel
set_option maxRecDepth 100000 in
theorem rw_257 : k_X12_block.all (chk prog_14_method_96_code 12 false 1) = true := by decide +kernel
set_option maxRecDepth 100000 in
theorem rw_258 : k_X12_arc.all (chk prog_14_method_97_code 12 false 1) = true := by decide +kernel
set_option maxRecDepth 100000 in
theorem rw_259 : k_X12_weight.all (chk prog_14_method_98_code 12 false 1) = true := by decide +kernel
set_option maxRecDepth 100000 in
theorem rw_260 : k_X12_isHow.all (chk prog_14_method_99_code 12 false 2) = true := by decide +kernel
set_option maxRecDepth 100000 in
theorem rw_261 : k_X12_order.all (chk prog_14_method_100_code 12 false 1) = true := by decide +kernel
set_option maxRecDepth 100000 in
theorem rw_262 : k_X12_place.all (chk prog_14_method_101_code 12 false 1) = true := by decide +kernel
set_option maxRecDepth 100000 in
theorem rw_263 : k_X12_falls_.all (chk prog_14_method_102_code 12 false 1) = true := by decide +kernel
set_option maxRecDepth 100000 in
theorem rw_264 : k_X12_touched.all (chk prog_14_method_103_code 12 false 1) = true := by decide +kernel
set_option maxRecDepth 100000 in
theorem rw_265 : k_X12_cost.all (chk prog_14_method_104_code 12 false 1) = true := by decide +kernel
set_option maxRecDepth 100000 in
theorem rw_266 : k_X12_jumps.all (chk prog_14_method_105_code 12 false 1) = true := by decide +kernel
set_option maxRecDepth 100000 in
theorem rw_267 : k_X12_tries.all (chk prog_14_method_106_code 12 false 0) = true := by decide +kernel
