section
set_option maxRecDepth 100000 in
theorem q_d264_0 : ((q_L264).take 40).all (q_ckL q_m264 4 code 0) = true := by decide +kernel
set_option maxRecDepth 100000 in
theorem q_d264_1 : (((q_L264).drop 40).take 40).all (q_ckL q_m264 4 code 0) = true := by decide +kernel
set_option maxRecDepth 100000 in
theorem q_d264_2 : ((((q_L264).drop 40).drop 40).take 40).all (q_ckL q_m264 4 code 0) = true := by decide +kernel
set_option maxRecDepth 100000 in
theorem q_d264_3 : (((((q_L264).drop 40).drop 40).drop 40).take 40).all (q_ckL q_m264 4 code 0) = true := by decide +kernel
set_option maxRecDepth 100000 in
theorem q_d264_4 : ((((((q_L264).drop 40).drop 40).drop 40).drop 40).take 40).all (q_ckL q_m264 4 code 0) = true := by decide +kernel
set_option maxRecDepth 100000 in
theorem q_d264_5 : (((((((q_L264).drop 40).drop 40).drop 40).drop 40).drop 40).take 40).all (q_ckL q_m264 4 code 0) = true := by decide +kernel
set_option maxRecDepth 100000 in
theorem q_d264_6 : ((((((((q_L264).drop 40).drop 40).drop 40).drop 40).drop 40).drop 40).take 40).all (q_ckL q_m264 4 code 0) = true := by decide +kernel
set_option maxRecDepth 100000 in
theorem q_d264_7 : (((((((((q_L264).drop 40).drop 40).drop 40).drop 40).drop 40).drop 40).drop 40).take 40).all (q_ckL q_m264 4 code 0) = true := by decide +kernel
set_option maxRecDepth 100000 in
theorem q_d264_8 : ((((((((((q_L264).drop 40).drop 40).drop 40).drop 40).drop 40).drop 40).drop 40).drop 40).take 40).all (q_ckL q_m264 4 code 0) = true := by decide +kernel
set_option maxRecDepth 100000 in
theorem q_d264_9 : (((((((((((q_L264).drop 40).drop 40).drop 40).drop 40).drop 40).drop 40).drop 40).drop 40).drop 40).take 40).all (q_ckL q_m264 4 code 0) = true := by decide +kernel
set_option maxRecDepth 100000 in
theorem q_d264_10 : ((((((((((((q_L264).drop 40).drop 40).drop 40).drop 40).drop 40).drop 40).drop 40).drop 40).drop 40).drop 40).take 40).all (q_ckL q_m264 4 code 0) = true := by decide +kernel
set_option maxRecDepth 100000 in
theorem q_d264_11 : (((((((((((((q_L264).drop 40).drop 40).drop 40).drop 40).drop 40).drop 40).drop 40).drop 40).drop 40).drop 40).drop 40).take 40).all (q_ckL q_m264 4 code 0) = true := by decide +kernel
set_option maxRecDepth 100000 in
theorem q_d264_12 : ((((((((((((((q_L264).drop 40).drop 40).drop 40).drop 40).drop 40).drop 40).drop 40).drop 40).drop 40).drop 40).drop 40).drop 40).take 40).all (q_ckL q_m264 4 code 0) = true := by decide +kernel
set_option maxRecDepth 100000 in
theorem q_d264_13 : (((((((((((((((q_L264).drop 40).drop 40).drop 40).drop 40).drop 40).drop 40).drop 40).drop 40).drop 40).drop 40).drop 40).drop 40).drop 40).take 40).all (q_ckL q_m264 4 code 0) = true := by decide +kernel
set_option maxRecDepth 100000 in
theorem q_d264_14 : ((((((((((((((((q_L264).drop 40).drop 40).drop 40).drop 40).drop 40).drop 40).drop 40).drop 40).drop 40).drop 40).drop 40).drop 40).drop 40).drop 40).take 40).all (q_ckL q_m264 4 code 0) = true := by decide +kernel
set_option maxRecDepth 100000 in
theorem q_d264_15 : (((((((((((((((((q_L264).drop 40).drop 40).drop 40).drop 40).drop 40).drop 40).drop 40).drop 40).drop 40).drop 40).drop 40).drop 40).drop 40).drop 40).drop 40).take 40).all (q_ckL q_m264 4 code 0) = true := by decide +kernel
set_option maxRecDepth 100000 in
theorem q_d264_16 : ((((((((((((((((((q_L264).drop 40).drop 40).drop 40).drop 40).drop 40).drop 40).drop 40).drop 40).drop 40).drop 40).drop 40).drop 40).drop 40).drop 40).drop 40).drop 40).take 40).all (q_ckL q_m264 4 code 0) = true := by decide +kernel
set_option maxRecDepth 100000 in
theorem q_d264_17 : (((((((((((((((((((q_L264).drop 40).drop 40).drop 40).drop 40).drop 40).drop 40).drop 40).drop 40).drop 40).drop 40).drop 40).drop 40).drop 40).drop 40).drop 40).drop 40).drop 40).take 40).all (q_ckL q_m264 4 code 0) = true := by decide +kernel
set_option maxRecDepth 100000 in
theorem q_d264_18 : ((((((((((((((((((((q_L264).drop 40).drop 40).drop 40).drop 40).drop 40).drop 40).drop 40).drop 40).drop 40).drop 40).drop 40).drop 40).drop 40).drop 40).drop 40).drop 40).drop 40).drop 40).take 40).all (q_ckL q_m264 4 code 0) = true := by decide +kernel
set_option maxRecDepth 100000 in
theorem q_d264_19 : (((((((((((((((((((((q_L264).drop 40).drop 40).drop 40).drop 40).drop 40).drop 40).drop 40).drop 40).drop 40).drop 40).drop 40).drop 40).drop 40).drop 40).drop 40).drop 40).drop 40).drop 40).drop 40).take 40).all (q_ckL q_m264 4 code 0) = true := by decide +kernel
set_option maxRecDepth 100000 in
theorem q_d264_20 : ((((((((((((((((((((((q_L264).drop 40).drop 40).drop 40).drop 40).drop 40).drop 40).drop 40).drop 40).drop 40).drop 40).drop 40).drop 40).drop 40).drop 40).drop 40).drop 40).drop 40).drop 40).drop 40).drop 40).take 40).all (q_ckL q_m264 4 code 0) = true := by decide +kernel
set_option maxRecDepth 100000 in
theorem q_d264_21 : (((((((((((((((((((((((q_L264).drop 40).drop 40).drop 40).drop 40).drop 40).drop 40).drop 40).drop 40).drop 40).drop 40).drop 40).drop 40).drop 40).drop 40).drop 40).drop 40).drop 40).drop 40).drop 40).drop 40).drop 40).take 40).all (q_ckL q_m264 4 code 0) = true := by decide +kernel
set_option maxRecDepth 100000 in
theorem q_d264_22 : ((((((((((((((((((((((((q_L264).drop 40).drop 40).drop 40).drop 40).drop 40).drop 40).drop 40).drop 40).drop 40).drop 40).drop 40).drop 40).drop 40).drop 40).drop 40).drop 40).drop 40).drop 40).drop 40).drop 40).drop 40).drop 40).take 40).all (q_ckL q_m264 4 code 0) = true := by decide +kernel
set_option maxRecDepth 100000 in
theorem q_d264_23 : (((((((((((((((((((((((((q_L264).drop 40).drop 40).drop 40).drop 40).drop 40).drop 40).drop 40).drop 40).drop 40).drop 40).drop 40).drop 40).drop 40).drop 40).drop 40).drop 40).drop 40).drop 40).drop 40).drop 40).drop 40).drop 40).drop 40).take 40).all (q_ckL q_m264 4 code 0) = true := by decide +kernel
set_option maxRecDepth 100000 in
theorem q_d264_24 : ((((((((((((((((((((((((((q_L264).drop 40).drop 40).drop 40).drop 40).drop 40).drop 40).drop 40).drop 40).drop 40).drop 40).drop 40).drop 40).drop 40).drop 40).drop 40).drop 40).drop 40).drop 40).drop 40).drop 40).drop 40).drop 40).drop 40).drop 40).take 40).all (q_ckL q_m264 4 code 0) = true := by decide +kernel
set_option maxRecDepth 100000 in
theorem q_d264_25 : ((((((((((((((((((((((((((q_L264).drop 40).drop 40).drop 40).drop 40).drop 40).drop 40).drop 40).drop 40).drop 40).drop 40).drop 40).drop 40).drop 40).drop 40).drop 40).drop 40).drop 40).drop 40).drop 40).drop 40).drop 40).drop 40).drop 40).drop 40).drop 40).all (q_ckL q_m264 4 code 0) = true := by decide +kernel
theorem q_d264 : q_L264.all (q_ckL q_m264 4 code 0) = true := q_sp 40 q_d264_0 (q_sp 40 q_d264_1 (q_sp 40 q_d264_2 (q_sp 40 q_d264_3 (q_sp 40 q_d264_4 (q_sp 40 q_d264_5 (q_sp 40 q_d264_6 (q_sp 40 q_d264_7 (q_sp 40 q_d264_8 (q_sp 40 q_d264_9 (q_sp 40 q_d264_10 (q_sp 40 q_d264_11 (q_sp 40 q_d264_12 (q_sp 40 q_d264_13 (q_sp 40 q_d264_14 (q_sp 40 q_d264_15 (q_sp 40 q_d264_16 (q_sp 40 q_d264_17 (q_sp 40 q_d264_18 (q_sp 40 q_d264_19 (q_sp 40 q_d264_20 (q_sp 40 q_d264_21 (q_sp 40 q_d264_22 (q_sp 40 q_d264_23 (q_sp 40 q_d264_24 (q_d264_25)))))))))))))))))))))))))
end
