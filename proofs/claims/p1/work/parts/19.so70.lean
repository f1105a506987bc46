/-! ===== the words of the methods' code ===== -/
set_option maxRecDepth 100000 in
theorem pc_0 : lw_tbl[461]? = some (Cond.code y0 prog_2_method_1_code 3 none) := rfl
set_option maxRecDepth 100000 in
theorem pc_1 : lw_tbl[971]? = some (Cond.code y1 prog_2_method_2_code 4 none) := rfl
set_option maxRecDepth 100000 in
theorem pc_2 : lw_tbl[975]? = some (Cond.code y2 prog_2_method_3_code 4 none) := rfl
set_option maxRecDepth 100000 in
theorem pc_3 : lw_tbl[980]? = some (Cond.code y3 prog_2_method_4_code 7 (some .int)) := rfl
set_option maxRecDepth 100000 in
theorem pc_4 : lw_tbl[987]? = some (Cond.code y4 prog_2_method_5_code 8 none) := rfl
set_option maxRecDepth 100000 in
theorem pc_5 : lw_tbl[996]? = some (Cond.code y5 prog_2_method_6_code 6 none) := rfl
set_option maxRecDepth 100000 in
theorem pc_6 : lw_tbl[1001]? = some (Cond.code y6 prog_2_method_7_code 7 (some .int)) := rfl
set_option maxRecDepth 100000 in
theorem pc_7 : lw_tbl[1005]? = some (Cond.code y7 prog_2_method_8_code 6 none) := rfl
set_option maxRecDepth 100000 in
theorem pc_8 : lw_tbl[1009]? = some (Cond.code y8 prog_2_method_9_code 5 (some .int)) := rfl
set_option maxRecDepth 100000 in
theorem pc_9 : lw_tbl[1013]? = some (Cond.code y9 prog_2_method_10_code 6 (some .int)) := rfl
set_option maxRecDepth 100000 in
theorem pc_10 : lw_tbl[1028]? = some (Cond.code y10 prog_2_method_11_code 4 none) := rfl
set_option maxRecDepth 100000 in
theorem pc_11 : lw_tbl[1032]? = some (Cond.code y11 prog_2_method_12_code 5 none) := rfl
set_option maxRecDepth 100000 in
theorem pc_12 : lw_tbl[1036]? = some (Cond.code y12 prog_2_method_13_code 5 none) := rfl
set_option maxRecDepth 100000 in
theorem pc_13 : lw_tbl[506]? = some (Cond.code y13 prog_3_method_1_code 3 none) := rfl
set_option maxRecDepth 100000 in
theorem pc_14 : lw_tbl[1040]? = some (Cond.code y14 prog_3_method_2_code 2 none) := rfl
set_option maxRecDepth 100000 in
theorem pc_15 : lw_tbl[1053]? = some (Cond.code y15 prog_3_method_3_code 7 (some .int)) := rfl
set_option maxRecDepth 100000 in
theorem pc_16 : lw_tbl[1049]? = some (Cond.code y16 prog_3_method_4_code 6 (some .int)) := rfl
set_option maxRecDepth 100000 in
theorem pc_17 : lw_tbl[1063]? = some (Cond.code y17 prog_3_method_5_code 6 none) := rfl
set_option maxRecDepth 100000 in
theorem pc_18 : lw_tbl[1067]? = some (Cond.code y18 prog_3_method_6_code 4 (some .int)) := rfl
set_option maxRecDepth 100000 in
theorem pc_19 : lw_tbl[1071]? = some (Cond.code y19 prog_3_method_7_code 5 none) := rfl
set_option maxRecDepth 100000 in
theorem pc_20 : lw_tbl[1075]? = some (Cond.code y20 prog_3_method_8_code 3 (some .boolean)) := rfl
set_option maxRecDepth 100000 in
theorem pc_21 : lw_tbl[1080]? = some (Cond.code y21 prog_3_method_9_code 3 none) := rfl
set_option maxRecDepth 100000 in
theorem pc_22 : lw_tbl[420]? = some (Cond.code y22 prog_4_method_1_code 2 none) := rfl
set_option maxRecDepth 100000 in
theorem pc_23 : lw_tbl[924]? = some (Cond.code y23 prog_4_method_2_code 6 none) := rfl
set_option maxRecDepth 100000 in
theorem pc_24 : lw_tbl[928]? = some (Cond.code y24 prog_4_method_3_code 6 (some .int)) := rfl
set_option maxRecDepth 100000 in
theorem pc_25 : lw_tbl[940]? = some (Cond.code y25 prog_4_method_4_code 4 none) := rfl
set_option maxRecDepth 100000 in
theorem pc_26 : lw_tbl[944]? = some (Cond.code y26 prog_4_method_5_code 2 none) := rfl
set_option maxRecDepth 100000 in
theorem pc_27 : lw_tbl[951]? = some (Cond.code y27 prog_4_method_6_code 1 (some .int)) := rfl
set_option maxRecDepth 100000 in
theorem pc_28 : lw_tbl[948]? = some (Cond.code y28 prog_4_method_7_code 6 none) := rfl
set_option maxRecDepth 100000 in
theorem pc_29 : lw_tbl[955]? = some (Cond.code y29 prog_4_method_8_code 6 none) := rfl
set_option maxRecDepth 100000 in
theorem pc_30 : lw_tbl[959]? = some (Cond.code y30 prog_4_method_9_code 5 none) := rfl
set_option maxRecDepth 100000 in
theorem pc_31 : lw_tbl[963]? = some (Cond.code y31 prog_4_method_10_code 4 (some .boolean)) := rfl
set_option maxRecDepth 100000 in
theorem pc_32 : lw_tbl[967]? = some (Cond.code y32 prog_4_method_11_code 5 (some .boolean)) := rfl
set_option maxRecDepth 100000 in
theorem pc_33 : lw_tbl[1021]? = some (Cond.code y33 prog_4_method_12_code 2 (some .int)) := rfl
set_option maxRecDepth 100000 in
theorem pc_34 : lw_tbl[1058]? = some (Cond.code y34 prog_4_method_13_code 2 (some .int)) := rfl
set_option maxRecDepth 100000 in
theorem pc_35 : lw_tbl[1017]? = some (Cond.code y35 prog_4_method_14_code 6 (some .int)) := rfl
set_option maxRecDepth 100000 in
theorem pc_36 : lw_tbl[1272]? = some (Cond.code y36 prog_4_method_15_code 4 (some .int)) := rfl
set_option maxRecDepth 100000 in
theorem pc_37 : lw_tbl[1374]? = some (Cond.code y37 prog_4_method_16_code 3 (some .int)) := rfl
set_option maxRecDepth 100000 in
theorem pc_38 : lw_tbl[1126]? = some (Cond.code y38 prog_4_method_17_code 3 (some .int)) := rfl
set_option maxRecDepth 100000 in
theorem pc_39 : lw_tbl[1130]? = some (Cond.code y39 prog_4_method_18_code 3 (some .int)) := rfl
set_option maxRecDepth 100000 in
theorem pc_40 : lw_tbl[400]? = some (Cond.code y40 prog_5_method_1_code 2 none) := rfl
set_option maxRecDepth 100000 in
theorem pc_41 : lw_tbl[910]? = some (Cond.code y41 prog_5_method_2_code 2 none) := rfl
set_option maxRecDepth 100000 in
theorem pc_42 : lw_tbl[1362]? = some (Cond.code y42 prog_5_method_3_code 2 none) := rfl
set_option maxRecDepth 100000 in
theorem pc_43 : lw_tbl[653]? = some (Cond.code y43 prog_6_method_1_code 3 none) := rfl
set_option maxRecDepth 100000 in
theorem pc_44 : lw_tbl[1085]? = some (Cond.code y44 prog_6_method_2_code 2 none) := rfl
set_option maxRecDepth 100000 in
theorem pc_45 : lw_tbl[1106]? = some (Cond.code y45 prog_6_method_3_code 5 none) := rfl
set_option maxRecDepth 100000 in
theorem pc_46 : lw_tbl[1110]? = some (Cond.code y46 prog_6_method_4_code 8 (some .int)) := rfl
set_option maxRecDepth 100000 in
theorem pc_47 : lw_tbl[1090]? = some (Cond.code y47 prog_6_method_5_code 3 none) := rfl
set_option maxRecDepth 100000 in
theorem pc_48 : lw_tbl[1094]? = some (Cond.code y48 prog_6_method_6_code 3 (some .boolean)) := rfl
set_option maxRecDepth 100000 in
theorem pc_49 : lw_tbl[1099]? = some (Cond.code y49 prog_6_method_7_code 2 (some .boolean)) := rfl
set_option maxRecDepth 100000 in
theorem pc_50 : lw_tbl[1341]? = some (Cond.code y50 prog_6_method_8_code 3 (some .boolean)) := rfl
set_option maxRecDepth 100000 in
theorem pc_51 : lw_tbl[1210]? = some (Cond.code y51 prog_6_method_9_code 2 (some .int)) := rfl
set_option maxRecDepth 100000 in
theorem pc_52 : lw_tbl[1251]? = some (Cond.code y52 prog_6_method_10_code 6 (some .int)) := rfl
set_option maxRecDepth 100000 in
theorem pc_53 : lw_tbl[1206]? = some (Cond.code y53 prog_6_method_11_code 3 (some .int)) := rfl
set_option maxRecDepth 100000 in
theorem pc_54 : lw_tbl[1243]? = some (Cond.code y54 prog_6_method_12_code 3 (some .int)) := rfl
set_option maxRecDepth 100000 in
theorem pc_55 : lw_tbl[1215]? = some (Cond.code y55 prog_6_method_13_code 3 (some .int)) := rfl
set_option maxRecDepth 100000 in
theorem pc_56 : lw_tbl[1189]? = some (Cond.code y56 prog_6_method_14_code 2 (some .int)) := rfl
set_option maxRecDepth 100000 in
theorem pc_57 : lw_tbl[1185]? = some (Cond.code y57 prog_6_method_15_code 2 (some .int)) := rfl
set_option maxRecDepth 100000 in
theorem pc_58 : lw_tbl[1193]? = some (Cond.code y58 prog_6_method_16_code 2 (some .int)) := rfl
set_option maxRecDepth 100000 in
theorem pc_59 : lw_tbl[1219]? = some (Cond.code y59 prog_6_method_17_code 1 (some .int)) := rfl
set_option maxRecDepth 100000 in
theorem pc_60 : lw_tbl[1223]? = some (Cond.code y60 prog_6_method_18_code 4 (some .int)) := rfl
set_option maxRecDepth 100000 in
theorem pc_61 : lw_tbl[1233]? = some (Cond.code y61 prog_6_method_19_code 4 none) := rfl
set_option maxRecDepth 100000 in
theorem pc_62 : lw_tbl[559]? = some (Cond.code y62 prog_7_method_1_code 1 none) := rfl
set_option maxRecDepth 100000 in
theorem pc_63 : lw_tbl[1227]? = some (Cond.code y63 prog_7_method_2_code 2 none) := rfl
set_option maxRecDepth 100000 in
theorem pc_64 : lw_tbl[1239]? = some (Cond.code y64 prog_7_method_3_code 2 none) := rfl
set_option maxRecDepth 100000 in
theorem pc_65 : lw_tbl[617]? = some (Cond.code y65 prog_8_method_1_code 3 none) := rfl
set_option maxRecDepth 100000 in
theorem pc_66 : lw_tbl[1370]? = some (Cond.code y66 prog_8_method_2_code 3 none) := rfl
set_option maxRecDepth 100000 in
theorem pc_67 : lw_tbl[1379]? = some (Cond.code y67 prog_8_method_3_code 6 (some .int)) := rfl
set_option maxRecDepth 100000 in
theorem pc_68 : lw_tbl[1387]? = some (Cond.code y68 prog_8_method_4_code 5 none) := rfl
set_option maxRecDepth 100000 in
theorem pc_69 : lw_tbl[1260]? = some (Cond.code y69 prog_8_method_5_code 8 (some .int)) := rfl
set_option maxRecDepth 100000 in
theorem pc_70 : lw_tbl[1266]? = some (Cond.code y70 prog_8_method_6_code 10 none) := rfl
set_option maxRecDepth 100000 in
theorem pc_71 : lw_tbl[192]? = some (Cond.code y71 prog_9_method_1_code 1 none) := rfl
set_option maxRecDepth 100000 in
theorem pc_72 : lw_tbl[755]? = some (Cond.code y72 prog_9_method_2_code 1 none) := rfl
set_option maxRecDepth 100000 in
theorem pc_73 : lw_tbl[914]? = some (Cond.code y73 prog_9_method_3_code 2 none) := rfl
set_option maxRecDepth 100000 in
theorem pc_74 : lw_tbl[859]? = some (Cond.code y74 prog_9_method_4_code 2 (some .boolean)) := rfl
set_option maxRecDepth 100000 in
theorem pc_75 : lw_tbl[1332]? = some (Cond.code y75 prog_9_method_5_code 2 (some .int)) := rfl
set_option maxRecDepth 100000 in
theorem pc_76 : lw_tbl[863]? = some (Cond.code y76 prog_9_method_6_code 3 none) := rfl
set_option maxRecDepth 100000 in
theorem pc_77 : lw_tbl[807]? = some (Cond.code y77 prog_9_method_7_code 2 none) := rfl
set_option maxRecDepth 100000 in
theorem pc_78 : lw_tbl[832]? = some (Cond.code y78 prog_9_method_8_code 4 (some .int)) := rfl
set_option maxRecDepth 100000 in
theorem pc_79 : lw_tbl[811]? = some (Cond.code y79 prog_9_method_9_code 4 none) := rfl
set_option maxRecDepth 100000 in
theorem pc_80 : lw_tbl[886]? = some (Cond.code y80 prog_9_method_10_code 4 none) := rfl
set_option maxRecDepth 100000 in
theorem pc_81 : lw_tbl[897]? = some (Cond.code y81 prog_9_method_11_code 3 (some .int)) := rfl
set_option maxRecDepth 100000 in
theorem pc_82 : lw_tbl[893]? = some (Cond.code y82 prog_9_method_12_code 2 (some .int)) := rfl
set_option maxRecDepth 100000 in
theorem pc_83 : lw_tbl[991]? = some (Cond.code y83 prog_9_method_13_code 2 (some .boolean)) := rfl
set_option maxRecDepth 100000 in
theorem pc_84 : lw_tbl[1045]? = some (Cond.code y84 prog_9_method_14_code 4 (some .int)) := rfl
set_option maxRecDepth 100000 in
theorem pc_85 : lw_tbl[1156]? = some (Cond.code y85 prog_9_method_15_code 4 (some .int)) := rfl
set_option maxRecDepth 100000 in
theorem pc_86 : lw_tbl[933]? = some (Cond.code y86 prog_9_method_16_code 2 (some .int)) := rfl
set_option maxRecDepth 100000 in
theorem pc_87 : lw_tbl[905]? = some (Cond.code y87 prog_9_method_17_code 2 (some .boolean)) := rfl
set_option maxRecDepth 100000 in
theorem pc_88 : lw_tbl[878]? = some (Cond.code y88 prog_9_method_18_code 3 (some .int)) := rfl
set_option maxRecDepth 100000 in
theorem pc_89 : lw_tbl[1354]? = some (Cond.code y89 prog_9_method_19_code 4 none) := rfl
set_option maxRecDepth 100000 in
theorem pc_90 : lw_tbl[332]? = some (Cond.code y90 prog_10_method_1_code 2 none) := rfl
set_option maxRecDepth 100000 in
theorem pc_91 : lw_tbl[751]? = some (Cond.code y91 prog_10_method_2_code 4 none) := rfl
set_option maxRecDepth 100000 in
theorem pc_92 : lw_tbl[786]? = some (Cond.code y92 prog_10_method_3_code 2 (some .boolean)) := rfl
set_option maxRecDepth 100000 in
theorem pc_93 : lw_tbl[782]? = some (Cond.code y93 prog_10_method_4_code 1 (some .boolean)) := rfl
set_option maxRecDepth 100000 in
theorem pc_94 : lw_tbl[851]? = some (Cond.code y94 prog_10_method_5_code 1 (some .boolean)) := rfl
set_option maxRecDepth 100000 in
theorem pc_95 : lw_tbl[856]? = some (Cond.code y95 prog_10_method_6_code 2 (some .boolean)) := rfl
set_option maxRecDepth 100000 in
theorem pc_96 : lw_tbl[870]? = some (Cond.code y96 prog_10_method_7_code 3 (some .boolean)) := rfl
set_option maxRecDepth 100000 in
theorem pc_97 : lw_tbl[874]? = some (Cond.code y97 prog_10_method_8_code 1 (some .boolean)) := rfl
set_option maxRecDepth 100000 in
theorem pc_98 : lw_tbl[820]? = some (Cond.code y98 prog_10_method_9_code 3 (some .boolean)) := rfl
set_option maxRecDepth 100000 in
theorem pc_99 : lw_tbl[836]? = some (Cond.code y99 prog_10_method_10_code 3 (some .boolean)) := rfl
set_option maxRecDepth 100000 in
theorem pc_100 : lw_tbl[841]? = some (Cond.code y100 prog_10_method_11_code 2 (some .boolean)) := rfl
set_option maxRecDepth 100000 in
theorem pc_101 : lw_tbl[846]? = some (Cond.code y101 prog_10_method_12_code 3 (some .boolean)) := rfl
set_option maxRecDepth 100000 in
theorem pc_102 : lw_tbl[803]? = some (Cond.code y102 prog_10_method_13_code 3 (some .boolean)) := rfl
set_option maxRecDepth 100000 in
theorem pc_103 : lw_tbl[815]? = some (Cond.code y103 prog_10_method_14_code 1 (some .boolean)) := rfl
set_option maxRecDepth 100000 in
theorem pc_104 : lw_tbl[791]? = some (Cond.code y104 prog_10_method_15_code 1 (some .boolean)) := rfl
set_option maxRecDepth 100000 in
theorem pc_105 : lw_tbl[824]? = some (Cond.code y105 prog_10_method_16_code 1 (some .boolean)) := rfl
set_option maxRecDepth 100000 in
theorem pc_106 : lw_tbl[828]? = some (Cond.code y106 prog_10_method_17_code 1 (some .boolean)) := rfl
set_option maxRecDepth 100000 in
theorem pc_107 : lw_tbl[799]? = some (Cond.code y107 prog_10_method_18_code 2 (some .int)) := rfl
set_option maxRecDepth 100000 in
theorem pc_108 : lw_tbl[882]? = some (Cond.code y108 prog_10_method_19_code 3 none) := rfl
set_option maxRecDepth 100000 in
theorem pc_109 : lw_tbl[901]? = some (Cond.code y109 prog_10_method_20_code 3 none) := rfl
set_option maxRecDepth 100000 in
theorem pc_110 : lw_tbl[340]? = some (Cond.code y110 prog_11_method_1_code 2 none) := rfl
set_option maxRecDepth 100000 in
theorem pc_111 : lw_tbl[759]? = some (Cond.code y111 prog_11_method_2_code 2 none) := rfl
set_option maxRecDepth 100000 in
theorem pc_112 : lw_tbl[766]? = some (Cond.code y112 prog_11_method_3_code 1 none) := rfl
set_option maxRecDepth 100000 in
theorem pc_113 : lw_tbl[770]? = some (Cond.code y113 prog_11_method_4_code 1 none) := rfl
set_option maxRecDepth 100000 in
theorem pc_114 : lw_tbl[774]? = some (Cond.code y114 prog_11_method_5_code 1 none) := rfl
set_option maxRecDepth 100000 in
theorem pc_115 : lw_tbl[778]? = some (Cond.code y115 prog_11_method_6_code 2 (some .boolean)) := rfl
set_option maxRecDepth 100000 in
theorem pc_116 : lw_tbl[795]? = some (Cond.code y116 prog_11_method_7_code 1 (some .boolean)) := rfl
set_option maxRecDepth 100000 in
theorem pc_117 : lw_tbl[574]? = some (Cond.code y117 prog_12_method_1_code 3 none) := rfl
set_option maxRecDepth 100000 in
theorem pc_118 : lw_tbl[1282]? = some (Cond.code y118 prog_12_method_2_code 6 none) := rfl
set_option maxRecDepth 100000 in
theorem pc_119 : lw_tbl[1287]? = some (Cond.code y119 prog_12_method_3_code 2 none) := rfl
set_option maxRecDepth 100000 in
theorem pc_120 : lw_tbl[1291]? = some (Cond.code y120 prog_12_method_4_code 5 none) := rfl
set_option maxRecDepth 100000 in
theorem pc_121 : lw_tbl[1298]? = some (Cond.code y121 prog_12_method_5_code 4 none) := rfl
set_option maxRecDepth 100000 in
theorem pc_122 : lw_tbl[1303]? = some (Cond.code y122 prog_12_method_6_code 5 none) := rfl
set_option maxRecDepth 100000 in
theorem pc_123 : lw_tbl[1308]? = some (Cond.code y123 prog_12_method_7_code 3 (some .boolean)) := rfl
set_option maxRecDepth 100000 in
theorem pc_124 : lw_tbl[1312]? = some (Cond.code y124 prog_12_method_8_code 4 none) := rfl
set_option maxRecDepth 100000 in
theorem pc_125 : lw_tbl[1316]? = some (Cond.code y125 prog_12_method_9_code 4 (some .boolean)) := rfl
set_option maxRecDepth 100000 in
theorem pc_126 : lw_tbl[184]? = some (Cond.code y126 prog_1_method_1_code 2 none) := rfl
set_option maxRecDepth 100000 in
theorem pc_127 : lw_tbl[731]? = some (Cond.code y127 prog_1_method_2_code 1 (some .int)) := rfl
set_option maxRecDepth 100000 in
theorem pc_128 : lw_tbl[735]? = some (Cond.code y128 prog_1_method_3_code 6 (some .int)) := rfl
set_option maxRecDepth 100000 in
theorem pc_129 : lw_tbl[743]? = some (Cond.code y129 prog_1_method_4_code 2 (some .int)) := rfl
set_option maxRecDepth 100000 in
theorem pc_130 : lw_tbl[1118]? = some (Cond.code y130 prog_1_method_5_code 2 (some .int)) := rfl
set_option maxRecDepth 100000 in
theorem pc_131 : lw_tbl[1122]? = some (Cond.code y131 prog_1_method_6_code 2 (some .int)) := rfl
set_option maxRecDepth 100000 in
theorem pc_132 : lw_tbl[1137]? = some (Cond.code y132 prog_1_method_7_code 3 (some .int)) := rfl
set_option maxRecDepth 100000 in
theorem pc_133 : lw_tbl[1148]? = some (Cond.code y133 prog_1_method_8_code 3 (some .int)) := rfl
set_option maxRecDepth 100000 in
theorem pc_134 : lw_tbl[1160]? = some (Cond.code y134 prog_1_method_9_code 3 (some .int)) := rfl
set_option maxRecDepth 100000 in
theorem pc_135 : lw_tbl[1168]? = some (Cond.code y135 prog_1_method_10_code 3 (some .int)) := rfl
set_option maxRecDepth 100000 in
theorem pc_136 : lw_tbl[1173]? = some (Cond.code y136 prog_1_method_11_code 3 (some .int)) := rfl
set_option maxRecDepth 100000 in
theorem pc_137 : lw_tbl[1181]? = some (Cond.code y137 prog_1_method_12_code 5 (some .int)) := rfl
set_option maxRecDepth 100000 in
theorem pc_138 : lw_tbl[1197]? = some (Cond.code y138 prog_1_method_13_code 3 (some .int)) := rfl
set_option maxRecDepth 100000 in
theorem pc_139 : lw_tbl[1202]? = some (Cond.code y139 prog_1_method_14_code 4 (some .int)) := rfl
set_option maxRecDepth 100000 in
theorem pc_140 : lw_tbl[1247]? = some (Cond.code y140 prog_1_method_15_code 3 (some .int)) := rfl
set_option maxRecDepth 100000 in
theorem pc_141 : lw_tbl[1256]? = some (Cond.code y141 prog_1_method_16_code 2 (some .int)) := rfl
set_option maxRecDepth 100000 in
theorem pc_142 : lw_tbl[1277]? = some (Cond.code y142 prog_1_method_17_code 7 (some .int)) := rfl
set_option maxRecDepth 100000 in
theorem pc_143 : lw_tbl[1323]? = some (Cond.code y143 prog_1_method_18_code 4 (some .int)) := rfl
set_option maxRecDepth 100000 in
theorem pc_144 : lw_tbl[1327]? = some (Cond.code y144 prog_1_method_19_code 4 (some .int)) := rfl
set_option maxRecDepth 100000 in
theorem pc_145 : lw_tbl[1337]? = some (Cond.code y145 prog_1_method_20_code 2 (some .int)) := rfl
set_option maxRecDepth 100000 in
theorem pc_146 : lw_tbl[1346]? = some (Cond.code y146 prog_1_method_21_code 4 (some .int)) := rfl
set_option maxRecDepth 100000 in
theorem pc_147 : lw_tbl[1358]? = some (Cond.code y147 prog_1_method_22_code 1 (some .int)) := rfl
set_option maxRecDepth 100000 in
theorem pc_148 : lw_tbl[1366]? = some (Cond.code y148 prog_1_method_23_code 3 (some .int)) := rfl
set_option maxRecDepth 100000 in
theorem pc_149 : lw_tbl[1383]? = some (Cond.code y149 prog_1_method_24_code 2 (some .int)) := rfl
set_option maxRecDepth 100000 in
theorem pc_150 : lw_tbl[1393]? = some (Cond.code y150 prog_1_method_25_code 3 (some .int)) := rfl
set_option maxRecDepth 100000 in
theorem pc_151 : lw_tbl[747]? = some (Cond.code y151 prog_1_method_26_code 2 (some .int)) := rfl
set_option maxRecDepth 100000 in
theorem pc_152 : lw_tbl[1114]? = some (Cond.code y152 prog_1_method_27_code 2 (some .int)) := rfl
set_option maxRecDepth 100000 in
theorem pc_153 : lw_tbl[1177]? = some (Cond.code y153 prog_1_method_28_code 2 (some .boolean)) := rfl
set_option maxRecDepth 100000 in
theorem pc_154 : lw_tbl[1141]? = some (Cond.code y154 prog_1_method_29_code 2 (some .boolean)) := rfl
set_option maxRecDepth 100000 in
theorem pc_155 : lw_tbl[1152]? = some (Cond.code y155 prog_1_method_30_code 2 (some .boolean)) := rfl
set_option maxRecDepth 100000 in
theorem pc_156 : lw_tbl[1164]? = some (Cond.code y156 prog_1_method_31_code 2 (some .boolean)) := rfl
set_option maxRecDepth 100000 in
theorem pc_157 : lw_tbl[1350]? = some (Cond.code y157 prog_1_method_32_code 2 (some .boolean)) := rfl
set_option maxRecDepth 100000 in
theorem pc_158 : lw_tbl[739]? = some (Cond.code y158 prog_1_method_33_code 3 none) := rfl
set_option maxRecDepth 100000 in
theorem pc_159 : lw_tbl[920]? = some (Cond.code y159 prog_1_method_34_code 2 none) := rfl
set_option maxRecDepth 100000 in
theorem pc_160 : lw_tbl[1397]? = some (Cond.code y160 prog_1_method_35_code 5 (some .int)) := rfl
set_option maxRecDepth 100000 in
theorem pc_161 : lw_tbl[1402]? = some (Cond.code y161 prog_1_method_36_code 4 none) := rfl
set_option maxRecDepth 100000 in
theorem pc_162 : lw_tbl[936]? = some (Cond.code y162 prog_1_method_37_code 6 none) := rfl
set_option maxRecDepth 100000 in
theorem pc_163 : lw_tbl[1407]? = some (Cond.code y163 prog_14_method_1_code 1 none) := rfl
set_option maxRecDepth 100000 in
theorem pc_164 : lw_tbl[1621]? = some (Cond.code y164 prog_14_method_3_code 1 (some .int)) := rfl
set_option maxRecDepth 100000 in
theorem pc_165 : lw_tbl[1640]? = some (Cond.code y165 prog_14_method_4_code 2 (some .int)) := rfl
set_option maxRecDepth 100000 in
theorem pc_166 : lw_tbl[1636]? = some (Cond.code y166 prog_14_method_5_code 3 (some .boolean)) := rfl
set_option maxRecDepth 100000 in
theorem pc_167 : lw_tbl[1423]? = some (Cond.code y167 prog_14_method_6_code 3 none) := rfl
set_option maxRecDepth 100000 in
theorem pc_168 : lw_tbl[1726]? = some (Cond.code y168 prog_14_method_7_code 4 none) := rfl
set_option maxRecDepth 100000 in
theorem pc_169 : lw_tbl[1722]? = some (Cond.code y169 prog_14_method_8_code 2 none) := rfl
set_option maxRecDepth 100000 in
theorem pc_170 : lw_tbl[1734]? = some (Cond.code y170 prog_14_method_9_code 1 (some .int)) := rfl
set_option maxRecDepth 100000 in
theorem pc_171 : lw_tbl[1738]? = some (Cond.code y171 prog_14_method_10_code 1 (some .int)) := rfl
set_option maxRecDepth 100000 in
theorem pc_172 : lw_tbl[1770]? = some (Cond.code y172 prog_14_method_11_code 1 (some .int)) := rfl
set_option maxRecDepth 100000 in
theorem pc_173 : lw_tbl[1742]? = some (Cond.code y173 prog_14_method_12_code 2 (some .int)) := rfl
set_option maxRecDepth 100000 in
theorem pc_174 : lw_tbl[1848]? = some (Cond.code y174 prog_14_method_13_code 2 (some .int)) := rfl
set_option maxRecDepth 100000 in
theorem pc_175 : lw_tbl[1856]? = some (Cond.code y175 prog_14_method_14_code 2 (some .int)) := rfl
set_option maxRecDepth 100000 in
theorem pc_176 : lw_tbl[1852]? = some (Cond.code y176 prog_14_method_15_code 2 (some .int)) := rfl
set_option maxRecDepth 100000 in
theorem pc_177 : lw_tbl[1813]? = some (Cond.code y177 prog_14_method_16_code 3 (some .int)) := rfl
set_option maxRecDepth 100000 in
theorem pc_178 : lw_tbl[1809]? = some (Cond.code y178 prog_14_method_17_code 2 (some .boolean)) := rfl
set_option maxRecDepth 100000 in
theorem pc_179 : lw_tbl[1836]? = some (Cond.code y179 prog_14_method_18_code 1 (some .int)) := rfl
set_option maxRecDepth 100000 in
theorem pc_180 : lw_tbl[1785]? = some (Cond.code y180 prog_14_method_19_code 1 (some .int)) := rfl
set_option maxRecDepth 100000 in
theorem pc_181 : lw_tbl[1782]? = some (Cond.code y181 prog_14_method_20_code 2 (some .int)) := rfl
set_option maxRecDepth 100000 in
theorem pc_182 : lw_tbl[1778]? = some (Cond.code y182 prog_14_method_21_code 4 (some .int)) := rfl
set_option maxRecDepth 100000 in
theorem pc_183 : lw_tbl[1774]? = some (Cond.code y183 prog_14_method_22_code 6 none) := rfl
set_option maxRecDepth 100000 in
theorem pc_184 : lw_tbl[1789]? = some (Cond.code y184 prog_14_method_23_code 4 (some .int)) := rfl
set_option maxRecDepth 100000 in
theorem pc_185 : lw_tbl[1793]? = some (Cond.code y185 prog_14_method_24_code 5 (some .int)) := rfl
set_option maxRecDepth 100000 in
theorem pc_186 : lw_tbl[1766]? = some (Cond.code y186 prog_14_method_25_code 4 none) := rfl
set_option maxRecDepth 100000 in
theorem pc_187 : lw_tbl[1844]? = some (Cond.code y187 prog_14_method_26_code 10 (some .int)) := rfl
set_option maxRecDepth 100000 in
theorem pc_188 : lw_tbl[1817]? = some (Cond.code y188 prog_14_method_27_code 6 (some .int)) := rfl
set_option maxRecDepth 100000 in
theorem pc_189 : lw_tbl[1805]? = some (Cond.code y189 prog_14_method_28_code 4 (some .int)) := rfl
set_option maxRecDepth 100000 in
theorem pc_190 : lw_tbl[1801]? = some (Cond.code y190 prog_14_method_29_code 5 none) := rfl
set_option maxRecDepth 100000 in
theorem pc_191 : lw_tbl[1829]? = some (Cond.code y191 prog_14_method_30_code 6 (some .boolean)) := rfl
set_option maxRecDepth 100000 in
theorem pc_192 : lw_tbl[1833]? = some (Cond.code y192 prog_14_method_31_code 8 (some .int)) := rfl
set_option maxRecDepth 100000 in
theorem pc_193 : lw_tbl[1840]? = some (Cond.code y193 prog_14_method_32_code 4 (some .int)) := rfl
set_option maxRecDepth 100000 in
theorem pc_194 : lw_tbl[1821]? = some (Cond.code y194 prog_14_method_33_code 6 (some .int)) := rfl
set_option maxRecDepth 100000 in
theorem pc_195 : lw_tbl[1825]? = some (Cond.code y195 prog_14_method_34_code 7 (some .int)) := rfl
set_option maxRecDepth 100000 in
theorem pc_196 : lw_tbl[1797]? = some (Cond.code y196 prog_14_method_35_code 7 (some .int)) := rfl
set_option maxRecDepth 100000 in
theorem pc_197 : lw_tbl[1860]? = some (Cond.code y197 prog_14_method_36_code 3 none) := rfl
set_option maxRecDepth 100000 in
theorem pc_198 : lw_tbl[1880]? = some (Cond.code y198 prog_14_method_37_code 6 (some .int)) := rfl
set_option maxRecDepth 100000 in
theorem pc_199 : lw_tbl[1896]? = some (Cond.code y199 prog_14_method_38_code 4 (some .int)) := rfl
set_option maxRecDepth 100000 in
theorem pc_200 : lw_tbl[1888]? = some (Cond.code y200 prog_14_method_39_code 2 (some .int)) := rfl
set_option maxRecDepth 100000 in
theorem pc_201 : lw_tbl[1876]? = some (Cond.code y201 prog_14_method_40_code 4 (some .int)) := rfl
set_option maxRecDepth 100000 in
theorem pc_202 : lw_tbl[1892]? = some (Cond.code y202 prog_14_method_41_code 4 (some .int)) := rfl
set_option maxRecDepth 100000 in
theorem pc_203 : lw_tbl[1904]? = some (Cond.code y203 prog_14_method_42_code 4 (some .int)) := rfl
set_option maxRecDepth 100000 in
theorem pc_204 : lw_tbl[1900]? = some (Cond.code y204 prog_14_method_43_code 7 none) := rfl
set_option maxRecDepth 100000 in
theorem pc_205 : lw_tbl[1884]? = some (Cond.code y205 prog_14_method_44_code 3 (some .int)) := rfl
set_option maxRecDepth 100000 in
theorem pc_206 : lw_tbl[1912]? = some (Cond.code y206 prog_14_method_45_code 5 (some .int)) := rfl
set_option maxRecDepth 100000 in
theorem pc_207 : lw_tbl[1908]? = some (Cond.code y207 prog_14_method_46_code 3 (some .int)) := rfl
set_option maxRecDepth 100000 in
theorem pc_208 : lw_tbl[1872]? = some (Cond.code y208 prog_14_method_47_code 5 none) := rfl
set_option maxRecDepth 100000 in
theorem pc_209 : lw_tbl[1921]? = some (Cond.code y209 prog_14_method_48_code 3 (some .int)) := rfl
set_option maxRecDepth 100000 in
theorem pc_210 : lw_tbl[1917]? = some (Cond.code y210 prog_14_method_49_code 3 none) := rfl
set_option maxRecDepth 100000 in
theorem pc_211 : lw_tbl[1868]? = some (Cond.code y211 prog_14_method_50_code 6 (some .int)) := rfl
set_option maxRecDepth 100000 in
theorem pc_212 : lw_tbl[1864]? = some (Cond.code y212 prog_14_method_51_code 5 none) := rfl
set_option maxRecDepth 100000 in
theorem pc_213 : lw_tbl[1730]? = some (Cond.code y213 prog_14_method_52_code 4 none) := rfl
set_option maxRecDepth 100000 in
theorem pc_214 : lw_tbl[1762]? = some (Cond.code y214 prog_14_method_53_code 3 none) := rfl
set_option maxRecDepth 100000 in
theorem pc_215 : lw_tbl[1758]? = some (Cond.code y215 prog_14_method_54_code 2 none) := rfl
set_option maxRecDepth 100000 in
theorem pc_216 : lw_tbl[1992]? = some (Cond.code y216 prog_14_method_55_code 2 (some .boolean)) := rfl
set_option maxRecDepth 100000 in
theorem pc_217 : lw_tbl[1988]? = some (Cond.code y217 prog_14_method_56_code 3 (some .boolean)) := rfl
set_option maxRecDepth 100000 in
theorem pc_218 : lw_tbl[1984]? = some (Cond.code y218 prog_14_method_57_code 4 none) := rfl
set_option maxRecDepth 100000 in
theorem pc_219 : lw_tbl[1980]? = some (Cond.code y219 prog_14_method_58_code 3 none) := rfl
set_option maxRecDepth 100000 in
theorem pc_220 : lw_tbl[2012]? = some (Cond.code y220 prog_14_method_59_code 4 (some .int)) := rfl
set_option maxRecDepth 100000 in
theorem pc_221 : lw_tbl[2016]? = some (Cond.code y221 prog_14_method_60_code 3 (some .int)) := rfl
set_option maxRecDepth 100000 in
theorem pc_222 : lw_tbl[1996]? = some (Cond.code y222 prog_14_method_61_code 2 (some .int)) := rfl
set_option maxRecDepth 100000 in
theorem pc_223 : lw_tbl[2000]? = some (Cond.code y223 prog_14_method_62_code 2 (some .int)) := rfl
set_option maxRecDepth 100000 in
theorem pc_224 : lw_tbl[1629]? = some (Cond.code y224 prog_14_method_63_code 3 none) := rfl
set_option maxRecDepth 100000 in
theorem pc_225 : lw_tbl[1625]? = some (Cond.code y225 prog_14_method_64_code 6 (some .int)) := rfl
set_option maxRecDepth 100000 in
theorem pc_226 : lw_tbl[1648]? = some (Cond.code y226 prog_14_method_65_code 4 (some .boolean)) := rfl
set_option maxRecDepth 100000 in
theorem pc_227 : lw_tbl[1644]? = some (Cond.code y227 prog_14_method_66_code 1 none) := rfl
set_option maxRecDepth 100000 in
theorem pc_228 : lw_tbl[1662]? = some (Cond.code y228 prog_14_method_67_code 3 none) := rfl
set_option maxRecDepth 100000 in
theorem pc_229 : lw_tbl[1654]? = some (Cond.code y229 prog_14_method_68_code 2 (some .int)) := rfl
set_option maxRecDepth 100000 in
theorem pc_230 : lw_tbl[1698]? = some (Cond.code y230 prog_14_method_69_code 2 none) := rfl
set_option maxRecDepth 100000 in
theorem pc_231 : lw_tbl[1674]? = some (Cond.code y231 prog_14_method_70_code 4 (some .int)) := rfl
set_option maxRecDepth 100000 in
theorem pc_232 : lw_tbl[1666]? = some (Cond.code y232 prog_14_method_71_code 1 (some .boolean)) := rfl
set_option maxRecDepth 100000 in
theorem pc_233 : lw_tbl[1670]? = some (Cond.code y233 prog_14_method_72_code 2 (some .int)) := rfl
set_option maxRecDepth 100000 in
theorem pc_234 : lw_tbl[1690]? = some (Cond.code y234 prog_14_method_73_code 2 (some .int)) := rfl
set_option maxRecDepth 100000 in
theorem pc_235 : lw_tbl[1678]? = some (Cond.code y235 prog_14_method_74_code 1 none) := rfl
set_option maxRecDepth 100000 in
theorem pc_236 : lw_tbl[1658]? = some (Cond.code y236 prog_14_method_75_code 2 none) := rfl
set_option maxRecDepth 100000 in
theorem pc_237 : lw_tbl[1694]? = some (Cond.code y237 prog_14_method_76_code 3 none) := rfl
set_option maxRecDepth 100000 in
theorem pc_238 : lw_tbl[1686]? = some (Cond.code y238 prog_14_method_77_code 4 none) := rfl
set_option maxRecDepth 100000 in
theorem pc_239 : lw_tbl[1706]? = some (Cond.code y239 prog_14_method_78_code 4 none) := rfl
set_option maxRecDepth 100000 in
theorem pc_240 : lw_tbl[1702]? = some (Cond.code y240 prog_14_method_79_code 2 none) := rfl
set_option maxRecDepth 100000 in
theorem pc_241 : lw_tbl[1682]? = some (Cond.code y241 prog_14_method_80_code 2 none) := rfl
set_option maxRecDepth 100000 in
theorem pc_242 : lw_tbl[1714]? = some (Cond.code y242 prog_14_method_81_code 5 (some .int)) := rfl
set_option maxRecDepth 100000 in
theorem pc_243 : lw_tbl[1718]? = some (Cond.code y243 prog_14_method_82_code 5 none) := rfl
set_option maxRecDepth 100000 in
theorem pc_244 : lw_tbl[1710]? = some (Cond.code y244 prog_14_method_83_code 4 none) := rfl
set_option maxRecDepth 100000 in
theorem pc_245 : lw_tbl[1633]? = some (Cond.code y245 prog_14_method_84_code 3 (some .int)) := rfl
set_option maxRecDepth 100000 in
theorem pc_246 : lw_tbl[1746]? = some (Cond.code y246 prog_14_method_85_code 2 (some .int)) := rfl
set_option maxRecDepth 100000 in
theorem pc_247 : lw_tbl[1937]? = some (Cond.code y247 prog_14_method_86_code 2 (some .boolean)) := rfl
set_option maxRecDepth 100000 in
theorem pc_248 : lw_tbl[1953]? = some (Cond.code y248 prog_14_method_87_code 2 (some .boolean)) := rfl
set_option maxRecDepth 100000 in
theorem pc_249 : lw_tbl[1961]? = some (Cond.code y249 prog_14_method_88_code 2 (some .boolean)) := rfl
set_option maxRecDepth 100000 in
theorem pc_250 : lw_tbl[1754]? = some (Cond.code y250 prog_14_method_89_code 3 (some .boolean)) := rfl
set_option maxRecDepth 100000 in
theorem pc_251 : lw_tbl[1925]? = some (Cond.code y251 prog_14_method_90_code 3 (some .int)) := rfl
set_option maxRecDepth 100000 in
theorem pc_252 : lw_tbl[1929]? = some (Cond.code y252 prog_14_method_91_code 3 (some .int)) := rfl
set_option maxRecDepth 100000 in
theorem pc_253 : lw_tbl[1750]? = some (Cond.code y253 prog_14_method_92_code 2 (some .int)) := rfl
set_option maxRecDepth 100000 in
theorem pc_254 : lw_tbl[1941]? = some (Cond.code y254 prog_14_method_93_code 4 (some .int)) := rfl
set_option maxRecDepth 100000 in
theorem pc_255 : lw_tbl[1945]? = some (Cond.code y255 prog_14_method_94_code 3 (some .int)) := rfl
set_option maxRecDepth 100000 in
theorem pc_256 : lw_tbl[1933]? = some (Cond.code y256 prog_14_method_95_code 3 (some .int)) := rfl
set_option maxRecDepth 100000 in
theorem pc_257 : lw_tbl[1949]? = some (Cond.code y257 prog_14_method_96_code 3 (some .int)) := rfl
set_option maxRecDepth 100000 in
theorem pc_258 : lw_tbl[1957]? = some (Cond.code y258 prog_14_method_97_code 3 (some .int)) := rfl
set_option maxRecDepth 100000 in
theorem pc_259 : lw_tbl[1965]? = some (Cond.code y259 prog_14_method_98_code 3 (some .int)) := rfl
set_option maxRecDepth 100000 in
theorem pc_260 : lw_tbl[1972]? = some (Cond.code y260 prog_14_method_99_code 1 (some .boolean)) := rfl
set_option maxRecDepth 100000 in
theorem pc_261 : lw_tbl[1969]? = some (Cond.code y261 prog_14_method_100_code 3 (some .int)) := rfl
set_option maxRecDepth 100000 in
theorem pc_262 : lw_tbl[1976]? = some (Cond.code y262 prog_14_method_101_code 4 (some .int)) := rfl
set_option maxRecDepth 100000 in
theorem pc_263 : lw_tbl[2004]? = some (Cond.code y263 prog_14_method_102_code 3 (some .int)) := rfl
set_option maxRecDepth 100000 in
theorem pc_264 : lw_tbl[2020]? = some (Cond.code y264 prog_14_method_103_code 4 (some .int)) := rfl
set_option maxRecDepth 100000 in
theorem pc_265 : lw_tbl[2008]? = some (Cond.code y265 prog_14_method_104_code 5 (some .int)) := rfl
set_option maxRecDepth 100000 in
theorem pc_266 : lw_tbl[2024]? = some (Cond.code y266 prog_14_method_105_code 3 (some .int)) := rfl
set_option maxRecDepth 100000 in
theorem pc_267 : lw_tbl[2032]? = some (Cond.code y267 prog_14_method_106_code 5 none) := rfl
set_option maxRecDepth 100000 in
theorem pc_268 : lw_tbl[2028]? = some (Cond.code y268 prog_14_method_107_code 3 (some .int)) := rfl
set_option maxRecDepth 100000 in
theorem pc_269 : lw_tbl[2048]? = some (Cond.code y269 prog_14_method_108_code 4 none) := rfl
set_option maxRecDepth 100000 in
theorem pc_270 : lw_tbl[2044]? = some (Cond.code y270 prog_14_method_109_code 3 none) := rfl
set_option maxRecDepth 100000 in
theorem pc_271 : lw_tbl[2060]? = some (Cond.code y271 prog_14_method_110_code 4 (some .int)) := rfl
set_option maxRecDepth 100000 in
theorem pc_272 : lw_tbl[2056]? = some (Cond.code y272 prog_14_method_111_code 3 (some .int)) := rfl
set_option maxRecDepth 100000 in
theorem pc_273 : lw_tbl[2052]? = some (Cond.code y273 prog_14_method_112_code 3 (some .int)) := rfl
set_option maxRecDepth 100000 in
theorem pc_274 : lw_tbl[2040]? = some (Cond.code y274 prog_14_method_113_code 5 (some .int)) := rfl
set_option maxRecDepth 100000 in
theorem pc_275 : lw_tbl[2036]? = some (Cond.code y275 prog_14_method_114_code 7 (some .int)) := rfl
set_option maxRecDepth 100000 in
theorem pc_276 : lw_tbl[2065]? = some (Cond.code y276 prog_14_method_115_code 4 (some .int)) := rfl
set_option maxRecDepth 100000 in
theorem pc_277 : lw_tbl[2069]? = some (Cond.code y277 prog_14_method_116_code 5 (some .int)) := rfl
set_option maxRecDepth 100000 in
theorem pc_278 : lw_tbl[2073]? = some (Cond.code y278 prog_14_method_117_code 4 (some .int)) := rfl
set_option maxRecDepth 100000 in
theorem pc_279 : lw_tbl[2085]? = some (Cond.code y279 prog_14_method_118_code 5 none) := rfl
set_option maxRecDepth 100000 in
theorem pc_280 : lw_tbl[2081]? = some (Cond.code y280 prog_14_method_119_code 2 (some .boolean)) := rfl
set_option maxRecDepth 100000 in
theorem pc_281 : lw_tbl[2077]? = some (Cond.code y281 prog_14_method_120_code 4 (some .int)) := rfl
set_option maxRecDepth 100000 in
theorem pc_282 : lw_tbl[2089]? = some (Cond.code y282 prog_14_method_121_code 1 (some .int)) := rfl
set_option maxRecDepth 100000 in
theorem pc_283 : lw_tbl[2093]? = some (Cond.code y283 prog_14_method_122_code 3 (some .int)) := rfl
set_option maxRecDepth 100000 in
theorem pc_284 : lw_tbl[2097]? = some (Cond.code y284 prog_14_method_123_code 8 (some .int)) := rfl
set_option maxRecDepth 100000 in
theorem pc_285 : lw_tbl[2101]? = some (Cond.code y285 prog_14_method_124_code 5 (some .int)) := rfl
set_option maxRecDepth 100000 in
theorem pm_code : ∀ {q : Nat} {e : MethodName × ByteArray × Nat × Option FieldType × Nat × Nat × Nat × Nat × Nat × Nat}, ptab[q]? = some e → Cond.code e.1 e.2.1 e.2.2.1 e.2.2.2.1 ∈ lw_good := by
  intro q e h
  match q, h with
  | 0, h => cases h; exact lw_at _ pc_0 rfl
  | 1, h => cases h; exact lw_at _ pc_1 rfl
  | 2, h => cases h; exact lw_at _ pc_2 rfl
  | 3, h => cases h; exact lw_at _ pc_3 rfl
  | 4, h => cases h; exact lw_at _ pc_4 rfl
  | 5, h => cases h; exact lw_at _ pc_5 rfl
  | 6, h => cases h; exact lw_at _ pc_6 rfl
  | 7, h => cases h; exact lw_at _ pc_7 rfl
  | 8, h => cases h; exact lw_at _ pc_8 rfl
  | 9, h => cases h; exact lw_at _ pc_9 rfl
  | 10, h => cases h; exact lw_at _ pc_10 rfl
  | 11, h => cases h; exact lw_at _ pc_11 rfl
  | 12, h => cases h; exact lw_at _ pc_12 rfl
  | 13, h => cases h; exact lw_at _ pc_13 rfl
  | 14, h => cases h; exact lw_at _ pc_14 rfl
  | 15, h => cases h; exact lw_at _ pc_15 rfl
  | 16, h => cases h; exact lw_at _ pc_16 rfl
  | 17, h => cases h; exact lw_at _ pc_17 rfl
  | 18, h => cases h; exact lw_at _ pc_18 rfl
  | 19, h => cases h; exact lw_at _ pc_19 rfl
  | 20, h => cases h; exact lw_at _ pc_20 rfl
  | 21, h => cases h; exact lw_at _ pc_21 rfl
  | 22, h => cases h; exact lw_at _ pc_22 rfl
  | 23, h => cases h; exact lw_at _ pc_23 rfl
  | 24, h => cases h; exact lw_at _ pc_24 rfl
  | 25, h => cases h; exact lw_at _ pc_25 rfl
  | 26, h => cases h; exact lw_at _ pc_26 rfl
  | 27, h => cases h; exact lw_at _ pc_27 rfl
  | 28, h => cases h; exact lw_at _ pc_28 rfl
  | 29, h => cases h; exact lw_at _ pc_29 rfl
  | 30, h => cases h; exact lw_at _ pc_30 rfl
  | 31, h => cases h; exact lw_at _ pc_31 rfl
  | 32, h => cases h; exact lw_at _ pc_32 rfl
  | 33, h => cases h; exact lw_at _ pc_33 rfl
  | 34, h => cases h; exact lw_at _ pc_34 rfl
  | 35, h => cases h; exact lw_at _ pc_35 rfl
  | 36, h => cases h; exact lw_at _ pc_36 rfl
  | 37, h => cases h; exact lw_at _ pc_37 rfl
  | 38, h => cases h; exact lw_at _ pc_38 rfl
  | 39, h => cases h; exact lw_at _ pc_39 rfl
  | 40, h => cases h; exact lw_at _ pc_40 rfl
  | 41, h => cases h; exact lw_at _ pc_41 rfl
  | 42, h => cases h; exact lw_at _ pc_42 rfl
  | 43, h => cases h; exact lw_at _ pc_43 rfl
  | 44, h => cases h; exact lw_at _ pc_44 rfl
  | 45, h => cases h; exact lw_at _ pc_45 rfl
  | 46, h => cases h; exact lw_at _ pc_46 rfl
  | 47, h => cases h; exact lw_at _ pc_47 rfl
  | 48, h => cases h; exact lw_at _ pc_48 rfl
  | 49, h => cases h; exact lw_at _ pc_49 rfl
  | 50, h => cases h; exact lw_at _ pc_50 rfl
  | 51, h => cases h; exact lw_at _ pc_51 rfl
  | 52, h => cases h; exact lw_at _ pc_52 rfl
  | 53, h => cases h; exact lw_at _ pc_53 rfl
  | 54, h => cases h; exact lw_at _ pc_54 rfl
  | 55, h => cases h; exact lw_at _ pc_55 rfl
  | 56, h => cases h; exact lw_at _ pc_56 rfl
  | 57, h => cases h; exact lw_at _ pc_57 rfl
  | 58, h => cases h; exact lw_at _ pc_58 rfl
  | 59, h => cases h; exact lw_at _ pc_59 rfl
  | 60, h => cases h; exact lw_at _ pc_60 rfl
  | 61, h => cases h; exact lw_at _ pc_61 rfl
  | 62, h => cases h; exact lw_at _ pc_62 rfl
  | 63, h => cases h; exact lw_at _ pc_63 rfl
  | 64, h => cases h; exact lw_at _ pc_64 rfl
  | 65, h => cases h; exact lw_at _ pc_65 rfl
  | 66, h => cases h; exact lw_at _ pc_66 rfl
  | 67, h => cases h; exact lw_at _ pc_67 rfl
  | 68, h => cases h; exact lw_at _ pc_68 rfl
  | 69, h => cases h; exact lw_at _ pc_69 rfl
  | 70, h => cases h; exact lw_at _ pc_70 rfl
  | 71, h => cases h; exact lw_at _ pc_71 rfl
  | 72, h => cases h; exact lw_at _ pc_72 rfl
  | 73, h => cases h; exact lw_at _ pc_73 rfl
  | 74, h => cases h; exact lw_at _ pc_74 rfl
  | 75, h => cases h; exact lw_at _ pc_75 rfl
  | 76, h => cases h; exact lw_at _ pc_76 rfl
  | 77, h => cases h; exact lw_at _ pc_77 rfl
  | 78, h => cases h; exact lw_at _ pc_78 rfl
  | 79, h => cases h; exact lw_at _ pc_79 rfl
  | 80, h => cases h; exact lw_at _ pc_80 rfl
  | 81, h => cases h; exact lw_at _ pc_81 rfl
  | 82, h => cases h; exact lw_at _ pc_82 rfl
  | 83, h => cases h; exact lw_at _ pc_83 rfl
  | 84, h => cases h; exact lw_at _ pc_84 rfl
  | 85, h => cases h; exact lw_at _ pc_85 rfl
  | 86, h => cases h; exact lw_at _ pc_86 rfl
  | 87, h => cases h; exact lw_at _ pc_87 rfl
  | 88, h => cases h; exact lw_at _ pc_88 rfl
  | 89, h => cases h; exact lw_at _ pc_89 rfl
  | 90, h => cases h; exact lw_at _ pc_90 rfl
  | 91, h => cases h; exact lw_at _ pc_91 rfl
  | 92, h => cases h; exact lw_at _ pc_92 rfl
  | 93, h => cases h; exact lw_at _ pc_93 rfl
  | 94, h => cases h; exact lw_at _ pc_94 rfl
  | 95, h => cases h; exact lw_at _ pc_95 rfl
  | 96, h => cases h; exact lw_at _ pc_96 rfl
  | 97, h => cases h; exact lw_at _ pc_97 rfl
  | 98, h => cases h; exact lw_at _ pc_98 rfl
  | 99, h => cases h; exact lw_at _ pc_99 rfl
  | 100, h => cases h; exact lw_at _ pc_100 rfl
  | 101, h => cases h; exact lw_at _ pc_101 rfl
  | 102, h => cases h; exact lw_at _ pc_102 rfl
  | 103, h => cases h; exact lw_at _ pc_103 rfl
  | 104, h => cases h; exact lw_at _ pc_104 rfl
  | 105, h => cases h; exact lw_at _ pc_105 rfl
  | 106, h => cases h; exact lw_at _ pc_106 rfl
  | 107, h => cases h; exact lw_at _ pc_107 rfl
  | 108, h => cases h; exact lw_at _ pc_108 rfl
  | 109, h => cases h; exact lw_at _ pc_109 rfl
  | 110, h => cases h; exact lw_at _ pc_110 rfl
  | 111, h => cases h; exact lw_at _ pc_111 rfl
  | 112, h => cases h; exact lw_at _ pc_112 rfl
  | 113, h => cases h; exact lw_at _ pc_113 rfl
  | 114, h => cases h; exact lw_at _ pc_114 rfl
  | 115, h => cases h; exact lw_at _ pc_115 rfl
  | 116, h => cases h; exact lw_at _ pc_116 rfl
  | 117, h => cases h; exact lw_at _ pc_117 rfl
  | 118, h => cases h; exact lw_at _ pc_118 rfl
  | 119, h => cases h; exact lw_at _ pc_119 rfl
  | 120, h => cases h; exact lw_at _ pc_120 rfl
  | 121, h => cases h; exact lw_at _ pc_121 rfl
  | 122, h => cases h; exact lw_at _ pc_122 rfl
  | 123, h => cases h; exact lw_at _ pc_123 rfl
  | 124, h => cases h; exact lw_at _ pc_124 rfl
  | 125, h => cases h; exact lw_at _ pc_125 rfl
  | 126, h => cases h; exact lw_at _ pc_126 rfl
  | 127, h => cases h; exact lw_at _ pc_127 rfl
  | 128, h => cases h; exact lw_at _ pc_128 rfl
  | 129, h => cases h; exact lw_at _ pc_129 rfl
  | 130, h => cases h; exact lw_at _ pc_130 rfl
  | 131, h => cases h; exact lw_at _ pc_131 rfl
  | 132, h => cases h; exact lw_at _ pc_132 rfl
  | 133, h => cases h; exact lw_at _ pc_133 rfl
  | 134, h => cases h; exact lw_at _ pc_134 rfl
  | 135, h => cases h; exact lw_at _ pc_135 rfl
  | 136, h => cases h; exact lw_at _ pc_136 rfl
  | 137, h => cases h; exact lw_at _ pc_137 rfl
  | 138, h => cases h; exact lw_at _ pc_138 rfl
  | 139, h => cases h; exact lw_at _ pc_139 rfl
  | 140, h => cases h; exact lw_at _ pc_140 rfl
  | 141, h => cases h; exact lw_at _ pc_141 rfl
  | 142, h => cases h; exact lw_at _ pc_142 rfl
  | 143, h => cases h; exact lw_at _ pc_143 rfl
  | 144, h => cases h; exact lw_at _ pc_144 rfl
  | 145, h => cases h; exact lw_at _ pc_145 rfl
  | 146, h => cases h; exact lw_at _ pc_146 rfl
  | 147, h => cases h; exact lw_at _ pc_147 rfl
  | 148, h => cases h; exact lw_at _ pc_148 rfl
  | 149, h => cases h; exact lw_at _ pc_149 rfl
  | 150, h => cases h; exact lw_at _ pc_150 rfl
  | 151, h => cases h; exact lw_at _ pc_151 rfl
  | 152, h => cases h; exact lw_at _ pc_152 rfl
  | 153, h => cases h; exact lw_at _ pc_153 rfl
  | 154, h => cases h; exact lw_at _ pc_154 rfl
  | 155, h => cases h; exact lw_at _ pc_155 rfl
  | 156, h => cases h; exact lw_at _ pc_156 rfl
  | 157, h => cases h; exact lw_at _ pc_157 rfl
  | 158, h => cases h; exact lw_at _ pc_158 rfl
  | 159, h => cases h; exact lw_at _ pc_159 rfl
  | 160, h => cases h; exact lw_at _ pc_160 rfl
  | 161, h => cases h; exact lw_at _ pc_161 rfl
  | 162, h => cases h; exact lw_at _ pc_162 rfl
  | 163, h => cases h; exact lw_at _ pc_163 rfl
  | 164, h => cases h; exact lw_at _ pc_164 rfl
  | 165, h => cases h; exact lw_at _ pc_165 rfl
  | 166, h => cases h; exact lw_at _ pc_166 rfl
  | 167, h => cases h; exact lw_at _ pc_167 rfl
  | 168, h => cases h; exact lw_at _ pc_168 rfl
  | 169, h => cases h; exact lw_at _ pc_169 rfl
  | 170, h => cases h; exact lw_at _ pc_170 rfl
  | 171, h => cases h; exact lw_at _ pc_171 rfl
  | 172, h => cases h; exact lw_at _ pc_172 rfl
  | 173, h => cases h; exact lw_at _ pc_173 rfl
  | 174, h => cases h; exact lw_at _ pc_174 rfl
  | 175, h => cases h; exact lw_at _ pc_175 rfl
  | 176, h => cases h; exact lw_at _ pc_176 rfl
  | 177, h => cases h; exact lw_at _ pc_177 rfl
  | 178, h => cases h; exact lw_at _ pc_178 rfl
  | 179, h => cases h; exact lw_at _ pc_179 rfl
  | 180, h => cases h; exact lw_at _ pc_180 rfl
  | 181, h => cases h; exact lw_at _ pc_181 rfl
  | 182, h => cases h; exact lw_at _ pc_182 rfl
  | 183, h => cases h; exact lw_at _ pc_183 rfl
  | 184, h => cases h; exact lw_at _ pc_184 rfl
  | 185, h => cases h; exact lw_at _ pc_185 rfl
  | 186, h => cases h; exact lw_at _ pc_186 rfl
  | 187, h => cases h; exact lw_at _ pc_187 rfl
  | 188, h => cases h; exact lw_at _ pc_188 rfl
  | 189, h => cases h; exact lw_at _ pc_189 rfl
  | 190, h => cases h; exact lw_at _ pc_190 rfl
  | 191, h => cases h; exact lw_at _ pc_191 rfl
  | 192, h => cases h; exact lw_at _ pc_192 rfl
  | 193, h => cases h; exact lw_at _ pc_193 rfl
  | 194, h => cases h; exact lw_at _ pc_194 rfl
  | 195, h => cases h; exact lw_at _ pc_195 rfl
  | 196, h => cases h; exact lw_at _ pc_196 rfl
  | 197, h => cases h; exact lw_at _ pc_197 rfl
  | 198, h => cases h; exact lw_at _ pc_198 rfl
  | 199, h => cases h; exact lw_at _ pc_199 rfl
  | 200, h => cases h; exact lw_at _ pc_200 rfl
  | 201, h => cases h; exact lw_at _ pc_201 rfl
  | 202, h => cases h; exact lw_at _ pc_202 rfl
  | 203, h => cases h; exact lw_at _ pc_203 rfl
  | 204, h => cases h; exact lw_at _ pc_204 rfl
  | 205, h => cases h; exact lw_at _ pc_205 rfl
  | 206, h => cases h; exact lw_at _ pc_206 rfl
  | 207, h => cases h; exact lw_at _ pc_207 rfl
  | 208, h => cases h; exact lw_at _ pc_208 rfl
  | 209, h => cases h; exact lw_at _ pc_209 rfl
  | 210, h => cases h; exact lw_at _ pc_210 rfl
  | 211, h => cases h; exact lw_at _ pc_211 rfl
  | 212, h => cases h; exact lw_at _ pc_212 rfl
  | 213, h => cases h; exact lw_at _ pc_213 rfl
  | 214, h => cases h; exact lw_at _ pc_214 rfl
  | 215, h => cases h; exact lw_at _ pc_215 rfl
  | 216, h => cases h; exact lw_at _ pc_216 rfl
  | 217, h => cases h; exact lw_at _ pc_217 rfl
  | 218, h => cases h; exact lw_at _ pc_218 rfl
  | 219, h => cases h; exact lw_at _ pc_219 rfl
  | 220, h => cases h; exact lw_at _ pc_220 rfl
  | 221, h => cases h; exact lw_at _ pc_221 rfl
  | 222, h => cases h; exact lw_at _ pc_222 rfl
  | 223, h => cases h; exact lw_at _ pc_223 rfl
  | 224, h => cases h; exact lw_at _ pc_224 rfl
  | 225, h => cases h; exact lw_at _ pc_225 rfl
  | 226, h => cases h; exact lw_at _ pc_226 rfl
  | 227, h => cases h; exact lw_at _ pc_227 rfl
  | 228, h => cases h; exact lw_at _ pc_228 rfl
  | 229, h => cases h; exact lw_at _ pc_229 rfl
  | 230, h => cases h; exact lw_at _ pc_230 rfl
  | 231, h => cases h; exact lw_at _ pc_231 rfl
  | 232, h => cases h; exact lw_at _ pc_232 rfl
  | 233, h => cases h; exact lw_at _ pc_233 rfl
  | 234, h => cases h; exact lw_at _ pc_234 rfl
  | 235, h => cases h; exact lw_at _ pc_235 rfl
  | 236, h => cases h; exact lw_at _ pc_236 rfl
  | 237, h => cases h; exact lw_at _ pc_237 rfl
  | 238, h => cases h; exact lw_at _ pc_238 rfl
  | 239, h => cases h; exact lw_at _ pc_239 rfl
  | 240, h => cases h; exact lw_at _ pc_240 rfl
  | 241, h => cases h; exact lw_at _ pc_241 rfl
  | 242, h => cases h; exact lw_at _ pc_242 rfl
  | 243, h => cases h; exact lw_at _ pc_243 rfl
  | 244, h => cases h; exact lw_at _ pc_244 rfl
  | 245, h => cases h; exact lw_at _ pc_245 rfl
  | 246, h => cases h; exact lw_at _ pc_246 rfl
  | 247, h => cases h; exact lw_at _ pc_247 rfl
  | 248, h => cases h; exact lw_at _ pc_248 rfl
  | 249, h => cases h; exact lw_at _ pc_249 rfl
  | 250, h => cases h; exact lw_at _ pc_250 rfl
  | 251, h => cases h; exact lw_at _ pc_251 rfl
  | 252, h => cases h; exact lw_at _ pc_252 rfl
  | 253, h => cases h; exact lw_at _ pc_253 rfl
  | 254, h => cases h; exact lw_at _ pc_254 rfl
  | 255, h => cases h; exact lw_at _ pc_255 rfl
  | 256, h => cases h; exact lw_at _ pc_256 rfl
  | 257, h => cases h; exact lw_at _ pc_257 rfl
  | 258, h => cases h; exact lw_at _ pc_258 rfl
  | 259, h => cases h; exact lw_at _ pc_259 rfl
  | 260, h => cases h; exact lw_at _ pc_260 rfl
  | 261, h => cases h; exact lw_at _ pc_261 rfl
  | 262, h => cases h; exact lw_at _ pc_262 rfl
  | 263, h => cases h; exact lw_at _ pc_263 rfl
  | 264, h => cases h; exact lw_at _ pc_264 rfl
  | 265, h => cases h; exact lw_at _ pc_265 rfl
  | 266, h => cases h; exact lw_at _ pc_266 rfl
  | 267, h => cases h; exact lw_at _ pc_267 rfl
  | 268, h => cases h; exact lw_at _ pc_268 rfl
  | 269, h => cases h; exact lw_at _ pc_269 rfl
  | 270, h => cases h; exact lw_at _ pc_270 rfl
  | 271, h => cases h; exact lw_at _ pc_271 rfl
  | 272, h => cases h; exact lw_at _ pc_272 rfl
  | 273, h => cases h; exact lw_at _ pc_273 rfl
  | 274, h => cases h; exact lw_at _ pc_274 rfl
  | 275, h => cases h; exact lw_at _ pc_275 rfl
  | 276, h => cases h; exact lw_at _ pc_276 rfl
  | 277, h => cases h; exact lw_at _ pc_277 rfl
  | 278, h => cases h; exact lw_at _ pc_278 rfl
  | 279, h => cases h; exact lw_at _ pc_279 rfl
  | 280, h => cases h; exact lw_at _ pc_280 rfl
  | 281, h => cases h; exact lw_at _ pc_281 rfl
  | 282, h => cases h; exact lw_at _ pc_282 rfl
  | 283, h => cases h; exact lw_at _ pc_283 rfl
  | 284, h => cases h; exact lw_at _ pc_284 rfl
  | 285, h => cases h; exact lw_at _ pc_285 rfl
  | n + 286, h => exact absurd (List.getElem?_eq_some_iff.mp h).1 (by show ¬ n + 286 < 286; omega)
