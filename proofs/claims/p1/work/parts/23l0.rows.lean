set_option maxRecDepth 100000 in
theorem rl_0 : ((k_L_law.drop 0).take 40).all (chk code 13 false 2) = true := by decide +kernel
set_option maxRecDepth 100000 in
theorem rl_1 : ((k_L_law.drop 40).take 40).all (chk code 13 false 2) = true := by decide +kernel
set_option maxRecDepth 100000 in
theorem rl_2 : ((k_L_law.drop 80).take 40).all (chk code 13 false 2) = true := by decide +kernel
set_option maxRecDepth 100000 in
theorem rl_3 : ((k_L_law.drop 120).take 40).all (chk code 13 false 2) = true := by decide +kernel
set_option maxRecDepth 100000 in
theorem rl_4 : ((k_L_law.drop 160).take 40).all (chk code 13 false 2) = true := by decide +kernel
set_option maxRecDepth 100000 in
theorem rl_5 : ((k_L_law.drop 200).take 40).all (chk code 13 false 2) = true := by decide +kernel
set_option maxRecDepth 100000 in
theorem rl_6 : ((k_L_law.drop 240).take 40).all (chk code 13 false 2) = true := by decide +kernel
set_option maxRecDepth 100000 in
theorem rl_7 : ((k_L_law.drop 280).take 40).all (chk code 13 false 2) = true := by decide +kernel
