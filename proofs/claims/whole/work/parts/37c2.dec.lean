section
set_option maxRecDepth 100000 in
theorem q_d145_0 : ((q_L145).take 40).all (q_ckL q_m145 1 prog_13_method_1_code 0) = true := by decide +kernel
set_option maxRecDepth 100000 in
theorem q_d145_1 : (((q_L145).drop 40).take 40).all (q_ckL q_m145 1 prog_13_method_1_code 0) = true := by decide +kernel
set_option maxRecDepth 100000 in
theorem q_d145_2 : ((((q_L145).drop 40).drop 40).take 40).all (q_ckL q_m145 1 prog_13_method_1_code 0) = true := by decide +kernel
set_option maxRecDepth 100000 in
theorem q_d145_3 : (((((q_L145).drop 40).drop 40).drop 40).take 40).all (q_ckL q_m145 1 prog_13_method_1_code 0) = true := by decide +kernel
set_option maxRecDepth 100000 in
theorem q_d145_4 : ((((((q_L145).drop 40).drop 40).drop 40).drop 40).take 40).all (q_ckL q_m145 1 prog_13_method_1_code 0) = true := by decide +kernel
set_option maxRecDepth 100000 in
theorem q_d145_5 : (((((((q_L145).drop 40).drop 40).drop 40).drop 40).drop 40).take 40).all (q_ckL q_m145 1 prog_13_method_1_code 0) = true := by decide +kernel
set_option maxRecDepth 100000 in
theorem q_d145_6 : ((((((((q_L145).drop 40).drop 40).drop 40).drop 40).drop 40).drop 40).take 40).all (q_ckL q_m145 1 prog_13_method_1_code 0) = true := by decide +kernel
set_option maxRecDepth 100000 in
theorem q_d145_7 : (((((((((q_L145).drop 40).drop 40).drop 40).drop 40).drop 40).drop 40).drop 40).take 40).all (q_ckL q_m145 1 prog_13_method_1_code 0) = true := by decide +kernel
set_option maxRecDepth 100000 in
theorem q_d145_8 : ((((((((((q_L145).drop 40).drop 40).drop 40).drop 40).drop 40).drop 40).drop 40).drop 40).take 40).all (q_ckL q_m145 1 prog_13_method_1_code 0) = true := by decide +kernel
set_option maxRecDepth 100000 in
theorem q_d145_9 : (((((((((((q_L145).drop 40).drop 40).drop 40).drop 40).drop 40).drop 40).drop 40).drop 40).drop 40).take 40).all (q_ckL q_m145 1 prog_13_method_1_code 0) = true := by decide +kernel
set_option maxRecDepth 100000 in
theorem q_d145_10 : ((((((((((((q_L145).drop 40).drop 40).drop 40).drop 40).drop 40).drop 40).drop 40).drop 40).drop 40).drop 40).take 40).all (q_ckL q_m145 1 prog_13_method_1_code 0) = true := by decide +kernel
set_option maxRecDepth 100000 in
theorem q_d145_11 : (((((((((((((q_L145).drop 40).drop 40).drop 40).drop 40).drop 40).drop 40).drop 40).drop 40).drop 40).drop 40).drop 40).take 40).all (q_ckL q_m145 1 prog_13_method_1_code 0) = true := by decide +kernel
set_option maxRecDepth 100000 in
theorem q_d145_12 : ((((((((((((((q_L145).drop 40).drop 40).drop 40).drop 40).drop 40).drop 40).drop 40).drop 40).drop 40).drop 40).drop 40).drop 40).take 40).all (q_ckL q_m145 1 prog_13_method_1_code 0) = true := by decide +kernel
set_option maxRecDepth 100000 in
theorem q_d145_13 : (((((((((((((((q_L145).drop 40).drop 40).drop 40).drop 40).drop 40).drop 40).drop 40).drop 40).drop 40).drop 40).drop 40).drop 40).drop 40).take 40).all (q_ckL q_m145 1 prog_13_method_1_code 0) = true := by decide +kernel
set_option maxRecDepth 100000 in
theorem q_d145_14 : ((((((((((((((((q_L145).drop 40).drop 40).drop 40).drop 40).drop 40).drop 40).drop 40).drop 40).drop 40).drop 40).drop 40).drop 40).drop 40).drop 40).take 40).all (q_ckL q_m145 1 prog_13_method_1_code 0) = true := by decide +kernel
set_option maxRecDepth 100000 in
theorem q_d145_15 : ((((((((((((((((q_L145).drop 40).drop 40).drop 40).drop 40).drop 40).drop 40).drop 40).drop 40).drop 40).drop 40).drop 40).drop 40).drop 40).drop 40).drop 40).all (q_ckL q_m145 1 prog_13_method_1_code 0) = true := by decide +kernel
theorem q_d145 : q_L145.all (q_ckL q_m145 1 prog_13_method_1_code 0) = true := q_sp 40 q_d145_0 (q_sp 40 q_d145_1 (q_sp 40 q_d145_2 (q_sp 40 q_d145_3 (q_sp 40 q_d145_4 (q_sp 40 q_d145_5 (q_sp 40 q_d145_6 (q_sp 40 q_d145_7 (q_sp 40 q_d145_8 (q_sp 40 q_d145_9 (q_sp 40 q_d145_10 (q_sp 40 q_d145_11 (q_sp 40 q_d145_12 (q_sp 40 q_d145_13 (q_sp 40 q_d145_14 (q_d145_15)))))))))))))))
end
