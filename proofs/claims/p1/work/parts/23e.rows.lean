set_option maxRecDepth 100000 in
theorem rw_268 : k_X12_least.all (chk prog_14_method_107_code 12 false 1) = true := by decide +kernel
set_option maxRecDepth 100000 in
theorem rw_269 : k_X12_uses.all (chk prog_14_method_108_code 12 false 0) = true := by decide +kernel
set_option maxRecDepth 100000 in
theorem rw_270 : k_X12_enters.all (chk prog_14_method_109_code 12 false 0) = true := by decide +kernel
set_option maxRecDepth 100000 in
theorem rw_271 : k_X12_drawn.all (chk prog_14_method_110_code 12 false 1) = true := by decide +kernel
set_option maxRecDepth 100000 in
theorem rw_272 : k_X12_goesOn.all (chk prog_14_method_111_code 12 false 1) = true := by decide +kernel
set_option maxRecDepth 100000 in
theorem rw_273 : k_X12_nextBlock.all (chk prog_14_method_112_code 12 false 1) = true := by decide +kernel
set_option maxRecDepth 100000 in
theorem rw_274 : k_X12_runs.all (chk prog_14_method_113_code 12 false 1) = true := by decide +kernel
set_option maxRecDepth 100000 in
theorem rw_275 : k_X12_run.all (chk prog_14_method_114_code 12 false 1) = true := by decide +kernel
set_option maxRecDepth 100000 in
theorem rw_276 : k_X12_count.all (chk prog_14_method_115_code 12 false 1) = true := by decide +kernel
set_option maxRecDepth 100000 in
theorem rw_277 : k_X12_set.all (chk prog_14_method_116_code 12 false 1) = true := by decide +kernel
set_option maxRecDepth 100000 in
theorem rw_278 : k_X12_take.all (chk prog_14_method_117_code 12 false 1) = true := by decide +kernel
set_option maxRecDepth 100000 in
theorem rw_279 : k_X12_movesTo.all (chk prog_14_method_118_code 12 false 0) = true := by decide +kernel
set_option maxRecDepth 100000 in
theorem rw_280 : k_X12_isPlace.all (chk prog_14_method_119_code 12 false 2) = true := by decide +kernel
set_option maxRecDepth 100000 in
theorem rw_281 : k_X12_move.all (chk prog_14_method_120_code 12 false 1) = true := by decide +kernel
set_option maxRecDepth 100000 in
theorem rw_282 : k_X12_undo.all (chk prog_14_method_121_code 12 false 1) = true := by decide +kernel
set_option maxRecDepth 100000 in
theorem rw_283 : k_X12_moved.all (chk prog_14_method_122_code 12 false 1) = true := by decide +kernel
set_option maxRecDepth 100000 in
theorem rw_284 : k_X12_best.all (chk prog_14_method_123_code 12 false 1) = true := by decide +kernel
set_option maxRecDepth 100000 in
theorem rw_285 : k_X12_enough.all (chk prog_14_method_124_code 12 false 1) = true := by decide +kernel
