section
set_option maxRecDepth 100000 in
theorem q_d90_0 : ((q_L90).take 40).all (q_ckL q_m90 8 prog_11_method_13_code 0) = true := by decide +kernel
set_option maxRecDepth 100000 in
theorem q_d90_1 : ((q_L90).drop 40).all (q_ckL q_m90 8 prog_11_method_13_code 0) = true := by decide +kernel
theorem q_d90 : q_L90.all (q_ckL q_m90 8 prog_11_method_13_code 0) = true := q_sp 40 q_d90_0 (q_d90_1)
set_option maxRecDepth 100000 in
theorem q_d91 : q_L91.all (q_ckL q_m91 3 prog_11_method_14_code 0) = true := by decide +kernel
set_option maxRecDepth 100000 in
theorem q_d92 : q_L92.all (q_ckL q_m92 3 prog_11_method_15_code 0) = true := by decide +kernel
set_option maxRecDepth 100000 in
theorem q_d93 : q_L93.all (q_ckL q_m93 3 prog_11_method_16_code 0) = true := by decide +kernel
set_option maxRecDepth 100000 in
theorem q_d94 : q_L94.all (q_ckL q_m94 2 prog_11_method_17_code 0) = true := by decide +kernel
set_option maxRecDepth 100000 in
theorem q_d95_0 : ((q_L95).take 40).all (q_ckL q_m95 8 prog_11_method_18_code 0) = true := by decide +kernel
set_option maxRecDepth 100000 in
theorem q_d95_1 : (((q_L95).drop 40).take 40).all (q_ckL q_m95 8 prog_11_method_18_code 0) = true := by decide +kernel
set_option maxRecDepth 100000 in
theorem q_d95_2 : (((q_L95).drop 40).drop 40).all (q_ckL q_m95 8 prog_11_method_18_code 0) = true := by decide +kernel
theorem q_d95 : q_L95.all (q_ckL q_m95 8 prog_11_method_18_code 0) = true := q_sp 40 q_d95_0 (q_sp 40 q_d95_1 (q_d95_2))
set_option maxRecDepth 100000 in
theorem q_d96_0 : ((q_L96).take 40).all (q_ckL q_m96 1 prog_1_method_1_code 0) = true := by decide +kernel
set_option maxRecDepth 100000 in
theorem q_d96_1 : ((q_L96).drop 40).all (q_ckL q_m96 1 prog_1_method_1_code 0) = true := by decide +kernel
theorem q_d96 : q_L96.all (q_ckL q_m96 1 prog_1_method_1_code 0) = true := q_sp 40 q_d96_0 (q_d96_1)
set_option maxRecDepth 100000 in
theorem q_d97 : q_L97.all (q_ckL q_m97 6 prog_1_method_2_code 0) = true := by decide +kernel
set_option maxRecDepth 100000 in
theorem q_d98 : q_L98.all (q_ckL q_m98 2 prog_1_method_3_code 0) = true := by decide +kernel
set_option maxRecDepth 100000 in
theorem q_d99 : q_L99.all (q_ckL q_m99 6 prog_1_method_4_code 0) = true := by decide +kernel
set_option maxRecDepth 100000 in
theorem q_d100_0 : ((q_L100).take 40).all (q_ckL q_m100 10 prog_1_method_5_code 0) = true := by decide +kernel
set_option maxRecDepth 100000 in
theorem q_d100_1 : (((q_L100).drop 40).take 40).all (q_ckL q_m100 10 prog_1_method_5_code 0) = true := by decide +kernel
set_option maxRecDepth 100000 in
theorem q_d100_2 : (((q_L100).drop 40).drop 40).all (q_ckL q_m100 10 prog_1_method_5_code 0) = true := by decide +kernel
theorem q_d100 : q_L100.all (q_ckL q_m100 10 prog_1_method_5_code 0) = true := q_sp 40 q_d100_0 (q_sp 40 q_d100_1 (q_d100_2))
set_option maxRecDepth 100000 in
theorem q_d101 : q_L101.all (q_ckL q_m101 2 prog_1_method_6_code 0) = true := by decide +kernel
set_option maxRecDepth 100000 in
theorem q_d102 : q_L102.all (q_ckL q_m102 2 prog_1_method_7_code 0) = true := by decide +kernel
set_option maxRecDepth 100000 in
theorem q_d103 : q_L103.all (q_ckL q_m103 1 prog_1_method_8_code 0) = true := by decide +kernel
set_option maxRecDepth 100000 in
theorem q_d104 : q_L104.all (q_ckL q_m104 2 prog_1_method_9_code 0) = true := by decide +kernel
set_option maxRecDepth 100000 in
theorem q_d105 : q_L105.all (q_ckL q_m105 3 prog_1_method_10_code 0) = true := by decide +kernel
set_option maxRecDepth 100000 in
theorem q_d106_0 : ((q_L106).take 40).all (q_ckL q_m106 5 prog_1_method_11_code 0) = true := by decide +kernel
set_option maxRecDepth 100000 in
theorem q_d106_1 : ((q_L106).drop 40).all (q_ckL q_m106 5 prog_1_method_11_code 0) = true := by decide +kernel
theorem q_d106 : q_L106.all (q_ckL q_m106 5 prog_1_method_11_code 0) = true := q_sp 40 q_d106_0 (q_d106_1)
set_option maxRecDepth 100000 in
theorem q_d107 : q_L107.all (q_ckL q_m107 5 prog_1_method_12_code 0) = true := by decide +kernel
set_option maxRecDepth 100000 in
theorem q_d108 : q_L108.all (q_ckL q_m108 4 prog_1_method_13_code 0) = true := by decide +kernel
set_option maxRecDepth 100000 in
theorem q_d109_0 : ((q_L109).take 40).all (q_ckL q_m109 8 prog_1_method_14_code 0) = true := by decide +kernel
set_option maxRecDepth 100000 in
theorem q_d109_1 : ((q_L109).drop 40).all (q_ckL q_m109 8 prog_1_method_14_code 0) = true := by decide +kernel
theorem q_d109 : q_L109.all (q_ckL q_m109 8 prog_1_method_14_code 0) = true := q_sp 40 q_d109_0 (q_d109_1)
set_option maxRecDepth 100000 in
theorem q_d110 : q_L110.all (q_ckL q_m110 2 prog_1_method_15_code 0) = true := by decide +kernel
set_option maxRecDepth 100000 in
theorem q_d111 : q_L111.all (q_ckL q_m111 2 prog_1_method_16_code 0) = true := by decide +kernel
set_option maxRecDepth 100000 in
theorem q_d112 : q_L112.all (q_ckL q_m112 4 prog_1_method_17_code 0) = true := by decide +kernel
set_option maxRecDepth 100000 in
theorem q_d113 : q_L113.all (q_ckL q_m113 5 prog_1_method_18_code 0) = true := by decide +kernel
set_option maxRecDepth 100000 in
theorem q_d114_0 : ((q_L114).take 40).all (q_ckL q_m114 9 prog_1_method_19_code 0) = true := by decide +kernel
set_option maxRecDepth 100000 in
theorem q_d114_1 : ((q_L114).drop 40).all (q_ckL q_m114 9 prog_1_method_19_code 0) = true := by decide +kernel
theorem q_d114 : q_L114.all (q_ckL q_m114 9 prog_1_method_19_code 0) = true := q_sp 40 q_d114_0 (q_d114_1)
set_option maxRecDepth 100000 in
theorem q_d115_0 : ((q_L115).take 40).all (q_ckL q_m115 5 prog_1_method_20_code 0) = true := by decide +kernel
set_option maxRecDepth 100000 in
theorem q_d115_1 : ((q_L115).drop 40).all (q_ckL q_m115 5 prog_1_method_20_code 0) = true := by decide +kernel
theorem q_d115 : q_L115.all (q_ckL q_m115 5 prog_1_method_20_code 0) = true := q_sp 40 q_d115_0 (q_d115_1)
set_option maxRecDepth 100000 in
theorem q_d116 : q_L116.all (q_ckL q_m116 7 prog_1_method_21_code 0) = true := by decide +kernel
set_option maxRecDepth 100000 in
theorem q_d117 : q_L117.all (q_ckL q_m117 5 prog_1_method_22_code 0) = true := by decide +kernel
set_option maxRecDepth 100000 in
theorem q_d118 : q_L118.all (q_ckL q_m118 2 prog_1_method_23_code 0) = true := by decide +kernel
set_option maxRecDepth 100000 in
theorem q_d119 : q_L119.all (q_ckL q_m119 1 prog_1_method_24_code 0) = true := by decide +kernel
set_option maxRecDepth 100000 in
theorem q_d120 : q_L120.all (q_ckL q_m120 2 prog_1_method_25_code 0) = true := by decide +kernel
set_option maxRecDepth 100000 in
theorem q_d121 : q_L121.all (q_ckL q_m121 4 prog_1_method_26_code 0) = true := by decide +kernel
set_option maxRecDepth 100000 in
theorem q_d122_0 : ((q_L122).take 40).all (q_ckL q_m122 6 prog_1_method_27_code 0) = true := by decide +kernel
set_option maxRecDepth 100000 in
theorem q_d122_1 : ((q_L122).drop 40).all (q_ckL q_m122 6 prog_1_method_27_code 0) = true := by decide +kernel
theorem q_d122 : q_L122.all (q_ckL q_m122 6 prog_1_method_27_code 0) = true := q_sp 40 q_d122_0 (q_d122_1)
set_option maxRecDepth 100000 in
theorem q_d123 : q_L123.all (q_ckL q_m123 5 prog_1_method_28_code 0) = true := by decide +kernel
set_option maxRecDepth 100000 in
theorem q_d124_0 : ((q_L124).take 40).all (q_ckL q_m124 7 prog_1_method_29_code 0) = true := by decide +kernel
set_option maxRecDepth 100000 in
theorem q_d124_1 : ((q_L124).drop 40).all (q_ckL q_m124 7 prog_1_method_29_code 0) = true := by decide +kernel
theorem q_d124 : q_L124.all (q_ckL q_m124 7 prog_1_method_29_code 0) = true := q_sp 40 q_d124_0 (q_d124_1)
set_option maxRecDepth 100000 in
theorem q_d125 : q_L125.all (q_ckL q_m125 5 prog_1_method_30_code 0) = true := by decide +kernel
set_option maxRecDepth 100000 in
theorem q_d126 : q_L126.all (q_ckL q_m126 5 prog_1_method_31_code 0) = true := by decide +kernel
set_option maxRecDepth 100000 in
theorem q_d127 : q_L127.all (q_ckL q_m127 6 prog_1_method_32_code 0) = true := by decide +kernel
set_option maxRecDepth 100000 in
theorem q_d128 : q_L128.all (q_ckL q_m128 7 prog_1_method_33_code 0) = true := by decide +kernel
set_option maxRecDepth 100000 in
theorem q_d129_0 : ((q_L129).take 40).all (q_ckL q_m129 8 prog_1_method_34_code 0) = true := by decide +kernel
set_option maxRecDepth 100000 in
theorem q_d129_1 : ((q_L129).drop 40).all (q_ckL q_m129 8 prog_1_method_34_code 0) = true := by decide +kernel
theorem q_d129 : q_L129.all (q_ckL q_m129 8 prog_1_method_34_code 0) = true := q_sp 40 q_d129_0 (q_d129_1)
set_option maxRecDepth 100000 in
theorem q_d130_0 : ((q_L130).take 40).all (q_ckL q_m130 10 prog_1_method_35_code 0) = true := by decide +kernel
set_option maxRecDepth 100000 in
theorem q_d130_1 : ((q_L130).drop 40).all (q_ckL q_m130 10 prog_1_method_35_code 0) = true := by decide +kernel
theorem q_d130 : q_L130.all (q_ckL q_m130 10 prog_1_method_35_code 0) = true := q_sp 40 q_d130_0 (q_d130_1)
set_option maxRecDepth 100000 in
theorem q_d131 : q_L131.all (q_ckL q_m131 1 prog_1_method_36_code 0) = true := by decide +kernel
set_option maxRecDepth 100000 in
theorem q_d132 : q_L132.all (q_ckL q_m132 2 prog_1_method_37_code 0) = true := by decide +kernel
set_option maxRecDepth 100000 in
theorem q_d133 : q_L133.all (q_ckL q_m133 2 prog_1_method_38_code 0) = true := by decide +kernel
set_option maxRecDepth 100000 in
theorem q_d134 : q_L134.all (q_ckL q_m134 1 prog_1_method_39_code 0) = true := by decide +kernel
set_option maxRecDepth 100000 in
theorem q_d135 : q_L135.all (q_ckL q_m135 2 prog_1_method_40_code 0) = true := by decide +kernel
set_option maxRecDepth 100000 in
theorem q_d136 : q_L136.all (q_ckL q_m136 2 prog_1_method_41_code 0) = true := by decide +kernel
set_option maxRecDepth 100000 in
theorem q_d137 : q_L137.all (q_ckL q_m137 3 prog_1_method_42_code 0) = true := by decide +kernel
set_option maxRecDepth 100000 in
theorem q_d138_0 : ((q_L138).take 40).all (q_ckL q_m138 4 prog_1_method_43_code 0) = true := by decide +kernel
set_option maxRecDepth 100000 in
theorem q_d138_1 : ((q_L138).drop 40).all (q_ckL q_m138 4 prog_1_method_43_code 0) = true := by decide +kernel
theorem q_d138 : q_L138.all (q_ckL q_m138 4 prog_1_method_43_code 0) = true := q_sp 40 q_d138_0 (q_d138_1)
set_option maxRecDepth 100000 in
theorem q_d139 : q_L139.all (q_ckL q_m139 3 prog_1_method_44_code 0) = true := by decide +kernel
set_option maxRecDepth 100000 in
theorem q_d140 : q_L140.all (q_ckL q_m140 4 prog_1_method_45_code 0) = true := by decide +kernel
set_option maxRecDepth 100000 in
theorem q_d141 : q_L141.all (q_ckL q_m141 4 prog_1_method_46_code 0) = true := by decide +kernel
set_option maxRecDepth 100000 in
theorem q_d142 : q_L142.all (q_ckL q_m142 3 prog_1_method_47_code 0) = true := by decide +kernel
set_option maxRecDepth 100000 in
theorem q_d143 : q_L143.all (q_ckL q_m143 5 prog_1_method_48_code 0) = true := by decide +kernel
set_option maxRecDepth 100000 in
theorem q_d144 : q_L144.all (q_ckL q_m144 7 prog_1_method_49_code 0) = true := by decide +kernel
end
