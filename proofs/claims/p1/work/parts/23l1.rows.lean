set_option maxRecDepth 100000 in
theorem rl_8 : ((k_L_law.drop 320).take 40).all (chk code 13 false 2) = true := by decide +kernel
set_option maxRecDepth 100000 in
theorem rl_9 : ((k_L_law.drop 360).take 40).all (chk code 13 false 2) = true := by decide +kernel
set_option maxRecDepth 100000 in
theorem rl_10 : ((k_L_law.drop 400).take 40).all (chk code 13 false 2) = true := by decide +kernel
set_option maxRecDepth 100000 in
theorem rl_11 : ((k_L_law.drop 440).take 40).all (chk code 13 false 2) = true := by decide +kernel
set_option maxRecDepth 100000 in
theorem rl_12 : ((k_L_law.drop 480).take 40).all (chk code 13 false 2) = true := by decide +kernel
set_option maxRecDepth 100000 in
theorem rl_13 : ((k_L_law.drop 520).take 40).all (chk code 13 false 2) = true := by decide +kernel
set_option maxRecDepth 100000 in
theorem rl_14 : ((k_L_law.drop 560).take 40).all (chk code 13 false 2) = true := by decide +kernel
set_option maxRecDepth 100000 in
theorem rl_15 : ((k_L_law.drop 600).take 40).all (chk code 13 false 2) = true := by decide +kernel
