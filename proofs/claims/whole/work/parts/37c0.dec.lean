section
set_option maxRecDepth 100000 in
theorem q_d0 : q_L0.all (q_ckL q_m0 1 prog_2_method_1_code 0) = true := by decide +kernel
set_option maxRecDepth 100000 in
theorem q_d1_0 : ((q_L1).take 40).all (q_ckL q_m1 9 prog_2_method_2_code 0) = true := by decide +kernel
set_option maxRecDepth 100000 in
theorem q_d1_1 : (((q_L1).drop 40).take 40).all (q_ckL q_m1 9 prog_2_method_2_code 0) = true := by decide +kernel
set_option maxRecDepth 100000 in
theorem q_d1_2 : (((q_L1).drop 40).drop 40).all (q_ckL q_m1 9 prog_2_method_2_code 0) = true := by decide +kernel
theorem q_d1 : q_L1.all (q_ckL q_m1 9 prog_2_method_2_code 0) = true := q_sp 40 q_d1_0 (q_sp 40 q_d1_1 (q_d1_2))
set_option maxRecDepth 100000 in
theorem q_d2 : q_L2.all (q_ckL q_m2 1 prog_2_method_3_code 0) = true := by decide +kernel
set_option maxRecDepth 100000 in
theorem q_d3 : q_L3.all (q_ckL q_m3 2 prog_2_method_4_code 0) = true := by decide +kernel
set_option maxRecDepth 100000 in
theorem q_d4_0 : ((q_L4).take 40).all (q_ckL q_m4 5 prog_2_method_5_code 0) = true := by decide +kernel
set_option maxRecDepth 100000 in
theorem q_d4_1 : ((q_L4).drop 40).all (q_ckL q_m4 5 prog_2_method_5_code 0) = true := by decide +kernel
theorem q_d4 : q_L4.all (q_ckL q_m4 5 prog_2_method_5_code 0) = true := q_sp 40 q_d4_0 (q_d4_1)
set_option maxRecDepth 100000 in
theorem q_d5_0 : ((q_L5).take 40).all (q_ckL q_m5 5 prog_3_method_1_code 0) = true := by decide +kernel
set_option maxRecDepth 100000 in
theorem q_d5_1 : ((q_L5).drop 40).all (q_ckL q_m5 5 prog_3_method_1_code 0) = true := by decide +kernel
theorem q_d5 : q_L5.all (q_ckL q_m5 5 prog_3_method_1_code 0) = true := q_sp 40 q_d5_0 (q_d5_1)
set_option maxRecDepth 100000 in
theorem q_d6 : q_L6.all (q_ckL q_m6 2 prog_3_method_2_code 0) = true := by decide +kernel
set_option maxRecDepth 100000 in
theorem q_d7 : q_L7.all (q_ckL q_m7 2 prog_3_method_3_code 0) = true := by decide +kernel
set_option maxRecDepth 100000 in
theorem q_d8_0 : ((q_L8).take 40).all (q_ckL q_m8 5 prog_3_method_4_code 0) = true := by decide +kernel
set_option maxRecDepth 100000 in
theorem q_d8_1 : ((q_L8).drop 40).all (q_ckL q_m8 5 prog_3_method_4_code 0) = true := by decide +kernel
theorem q_d8 : q_L8.all (q_ckL q_m8 5 prog_3_method_4_code 0) = true := q_sp 40 q_d8_0 (q_d8_1)
set_option maxRecDepth 100000 in
theorem q_d9_0 : ((q_L9).take 40).all (q_ckL q_m9 5 prog_3_method_5_code 0) = true := by decide +kernel
set_option maxRecDepth 100000 in
theorem q_d9_1 : (((q_L9).drop 40).take 40).all (q_ckL q_m9 5 prog_3_method_5_code 0) = true := by decide +kernel
set_option maxRecDepth 100000 in
theorem q_d9_2 : (((q_L9).drop 40).drop 40).all (q_ckL q_m9 5 prog_3_method_5_code 0) = true := by decide +kernel
theorem q_d9 : q_L9.all (q_ckL q_m9 5 prog_3_method_5_code 0) = true := q_sp 40 q_d9_0 (q_sp 40 q_d9_1 (q_d9_2))
set_option maxRecDepth 100000 in
theorem q_d10 : q_L10.all (q_ckL q_m10 4 prog_3_method_6_code 0) = true := by decide +kernel
set_option maxRecDepth 100000 in
theorem q_d11_0 : ((q_L11).take 40).all (q_ckL q_m11 5 prog_3_method_7_code 0) = true := by decide +kernel
set_option maxRecDepth 100000 in
theorem q_d11_1 : ((q_L11).drop 40).all (q_ckL q_m11 5 prog_3_method_7_code 0) = true := by decide +kernel
theorem q_d11 : q_L11.all (q_ckL q_m11 5 prog_3_method_7_code 0) = true := q_sp 40 q_d11_0 (q_d11_1)
set_option maxRecDepth 100000 in
theorem q_d12_0 : ((q_L12).take 40).all (q_ckL q_m12 5 prog_3_method_8_code 0) = true := by decide +kernel
set_option maxRecDepth 100000 in
theorem q_d12_1 : ((q_L12).drop 40).all (q_ckL q_m12 5 prog_3_method_8_code 0) = true := by decide +kernel
theorem q_d12 : q_L12.all (q_ckL q_m12 5 prog_3_method_8_code 0) = true := q_sp 40 q_d12_0 (q_d12_1)
set_option maxRecDepth 100000 in
theorem q_d13_0 : ((q_L13).take 40).all (q_ckL q_m13 3 prog_3_method_9_code 0) = true := by decide +kernel
set_option maxRecDepth 100000 in
theorem q_d13_1 : (((q_L13).drop 40).take 40).all (q_ckL q_m13 3 prog_3_method_9_code 0) = true := by decide +kernel
set_option maxRecDepth 100000 in
theorem q_d13_2 : (((q_L13).drop 40).drop 40).all (q_ckL q_m13 3 prog_3_method_9_code 0) = true := by decide +kernel
theorem q_d13 : q_L13.all (q_ckL q_m13 3 prog_3_method_9_code 0) = true := q_sp 40 q_d13_0 (q_sp 40 q_d13_1 (q_d13_2))
set_option maxRecDepth 100000 in
theorem q_d14 : q_L14.all (q_ckL q_m14 4 prog_3_method_10_code 0) = true := by decide +kernel
set_option maxRecDepth 100000 in
theorem q_d15_0 : ((q_L15).take 40).all (q_ckL q_m15 9 prog_3_method_11_code 0) = true := by decide +kernel
set_option maxRecDepth 100000 in
theorem q_d15_1 : ((q_L15).drop 40).all (q_ckL q_m15 9 prog_3_method_11_code 0) = true := by decide +kernel
theorem q_d15 : q_L15.all (q_ckL q_m15 9 prog_3_method_11_code 0) = true := q_sp 40 q_d15_0 (q_d15_1)
set_option maxRecDepth 100000 in
theorem q_d16_0 : ((q_L16).take 40).all (q_ckL q_m16 5 prog_3_method_12_code 0) = true := by decide +kernel
set_option maxRecDepth 100000 in
theorem q_d16_1 : ((q_L16).drop 40).all (q_ckL q_m16 5 prog_3_method_12_code 0) = true := by decide +kernel
theorem q_d16 : q_L16.all (q_ckL q_m16 5 prog_3_method_12_code 0) = true := q_sp 40 q_d16_0 (q_d16_1)
set_option maxRecDepth 100000 in
theorem q_d17_0 : ((q_L17).take 40).all (q_ckL q_m17 4 prog_3_method_13_code 0) = true := by decide +kernel
set_option maxRecDepth 100000 in
theorem q_d17_1 : ((q_L17).drop 40).all (q_ckL q_m17 4 prog_3_method_13_code 0) = true := by decide +kernel
theorem q_d17 : q_L17.all (q_ckL q_m17 4 prog_3_method_13_code 0) = true := q_sp 40 q_d17_0 (q_d17_1)
set_option maxRecDepth 100000 in
theorem q_d18_0 : ((q_L18).take 40).all (q_ckL q_m18 8 prog_3_method_14_code 0) = true := by decide +kernel
set_option maxRecDepth 100000 in
theorem q_d18_1 : ((q_L18).drop 40).all (q_ckL q_m18 8 prog_3_method_14_code 0) = true := by decide +kernel
theorem q_d18 : q_L18.all (q_ckL q_m18 8 prog_3_method_14_code 0) = true := q_sp 40 q_d18_0 (q_d18_1)
set_option maxRecDepth 100000 in
theorem q_d19_0 : ((q_L19).take 40).all (q_ckL q_m19 9 prog_3_method_15_code 0) = true := by decide +kernel
set_option maxRecDepth 100000 in
theorem q_d19_1 : ((q_L19).drop 40).all (q_ckL q_m19 9 prog_3_method_15_code 0) = true := by decide +kernel
theorem q_d19 : q_L19.all (q_ckL q_m19 9 prog_3_method_15_code 0) = true := q_sp 40 q_d19_0 (q_d19_1)
set_option maxRecDepth 100000 in
theorem q_d20 : q_L20.all (q_ckL q_m20 5 prog_3_method_16_code 0) = true := by decide +kernel
set_option maxRecDepth 100000 in
theorem q_d21 : q_L21.all (q_ckL q_m21 5 prog_3_method_17_code 0) = true := by decide +kernel
set_option maxRecDepth 100000 in
theorem q_d22_0 : ((q_L22).take 40).all (q_ckL q_m22 7 prog_3_method_18_code 0) = true := by decide +kernel
set_option maxRecDepth 100000 in
theorem q_d22_1 : ((q_L22).drop 40).all (q_ckL q_m22 7 prog_3_method_18_code 0) = true := by decide +kernel
theorem q_d22 : q_L22.all (q_ckL q_m22 7 prog_3_method_18_code 0) = true := q_sp 40 q_d22_0 (q_d22_1)
set_option maxRecDepth 100000 in
theorem q_d23_0 : ((q_L23).take 40).all (q_ckL q_m23 3 prog_3_method_19_code 0) = true := by decide +kernel
set_option maxRecDepth 100000 in
theorem q_d23_1 : ((q_L23).drop 40).all (q_ckL q_m23 3 prog_3_method_19_code 0) = true := by decide +kernel
theorem q_d23 : q_L23.all (q_ckL q_m23 3 prog_3_method_19_code 0) = true := q_sp 40 q_d23_0 (q_d23_1)
set_option maxRecDepth 100000 in
theorem q_d24_0 : ((q_L24).take 40).all (q_ckL q_m24 6 prog_3_method_20_code 0) = true := by decide +kernel
set_option maxRecDepth 100000 in
theorem q_d24_1 : (((q_L24).drop 40).take 40).all (q_ckL q_m24 6 prog_3_method_20_code 0) = true := by decide +kernel
set_option maxRecDepth 100000 in
theorem q_d24_2 : (((q_L24).drop 40).drop 40).all (q_ckL q_m24 6 prog_3_method_20_code 0) = true := by decide +kernel
theorem q_d24 : q_L24.all (q_ckL q_m24 6 prog_3_method_20_code 0) = true := q_sp 40 q_d24_0 (q_sp 40 q_d24_1 (q_d24_2))
set_option maxRecDepth 100000 in
theorem q_d25 : q_L25.all (q_ckL q_m25 7 prog_3_method_21_code 0) = true := by decide +kernel
set_option maxRecDepth 100000 in
theorem q_d26 : q_L26.all (q_ckL q_m26 4 prog_3_method_22_code 0) = true := by decide +kernel
set_option maxRecDepth 100000 in
theorem q_d27 : q_L27.all (q_ckL q_m27 4 prog_3_method_23_code 0) = true := by decide +kernel
set_option maxRecDepth 100000 in
theorem q_d28 : q_L28.all (q_ckL q_m28 5 prog_3_method_24_code 0) = true := by decide +kernel
set_option maxRecDepth 100000 in
theorem q_d29_0 : ((q_L29).take 40).all (q_ckL q_m29 7 prog_3_method_25_code 0) = true := by decide +kernel
set_option maxRecDepth 100000 in
theorem q_d29_1 : ((q_L29).drop 40).all (q_ckL q_m29 7 prog_3_method_25_code 0) = true := by decide +kernel
theorem q_d29 : q_L29.all (q_ckL q_m29 7 prog_3_method_25_code 0) = true := q_sp 40 q_d29_0 (q_d29_1)
set_option maxRecDepth 100000 in
theorem q_d30_0 : ((q_L30).take 40).all (q_ckL q_m30 6 prog_3_method_26_code 0) = true := by decide +kernel
set_option maxRecDepth 100000 in
theorem q_d30_1 : ((q_L30).drop 40).all (q_ckL q_m30 6 prog_3_method_26_code 0) = true := by decide +kernel
theorem q_d30 : q_L30.all (q_ckL q_m30 6 prog_3_method_26_code 0) = true := q_sp 40 q_d30_0 (q_d30_1)
set_option maxRecDepth 100000 in
theorem q_d31_0 : ((q_L31).take 40).all (q_ckL q_m31 6 prog_3_method_27_code 0) = true := by decide +kernel
set_option maxRecDepth 100000 in
theorem q_d31_1 : ((q_L31).drop 40).all (q_ckL q_m31 6 prog_3_method_27_code 0) = true := by decide +kernel
theorem q_d31 : q_L31.all (q_ckL q_m31 6 prog_3_method_27_code 0) = true := q_sp 40 q_d31_0 (q_d31_1)
set_option maxRecDepth 100000 in
theorem q_d32_0 : ((q_L32).take 40).all (q_ckL q_m32 10 prog_3_method_28_code 0) = true := by decide +kernel
set_option maxRecDepth 100000 in
theorem q_d32_1 : ((q_L32).drop 40).all (q_ckL q_m32 10 prog_3_method_28_code 0) = true := by decide +kernel
theorem q_d32 : q_L32.all (q_ckL q_m32 10 prog_3_method_28_code 0) = true := q_sp 40 q_d32_0 (q_d32_1)
set_option maxRecDepth 100000 in
theorem q_d33 : q_L33.all (q_ckL q_m33 2 prog_4_method_1_code 0) = true := by decide +kernel
set_option maxRecDepth 100000 in
theorem q_d34 : q_L34.all (q_ckL q_m34 3 prog_4_method_2_code 0) = true := by decide +kernel
set_option maxRecDepth 100000 in
theorem q_d35_0 : ((q_L35).take 40).all (q_ckL q_m35 5 prog_4_method_3_code 0) = true := by decide +kernel
set_option maxRecDepth 100000 in
theorem q_d35_1 : ((q_L35).drop 40).all (q_ckL q_m35 5 prog_4_method_3_code 0) = true := by decide +kernel
theorem q_d35 : q_L35.all (q_ckL q_m35 5 prog_4_method_3_code 0) = true := q_sp 40 q_d35_0 (q_d35_1)
set_option maxRecDepth 100000 in
theorem q_d36 : q_L36.all (q_ckL q_m36 1 prog_5_method_1_code 0) = true := by decide +kernel
set_option maxRecDepth 100000 in
theorem q_d37_0 : ((q_L37).take 40).all (q_ckL q_m37 5 prog_5_method_2_code 0) = true := by decide +kernel
set_option maxRecDepth 100000 in
theorem q_d37_1 : ((q_L37).drop 40).all (q_ckL q_m37 5 prog_5_method_2_code 0) = true := by decide +kernel
theorem q_d37 : q_L37.all (q_ckL q_m37 5 prog_5_method_2_code 0) = true := q_sp 40 q_d37_0 (q_d37_1)
set_option maxRecDepth 100000 in
theorem q_d38 : q_L38.all (q_ckL q_m38 2 prog_5_method_3_code 0) = true := by decide +kernel
set_option maxRecDepth 100000 in
theorem q_d39_0 : ((q_L39).take 40).all (q_ckL q_m39 7 prog_5_method_4_code 0) = true := by decide +kernel
set_option maxRecDepth 100000 in
theorem q_d39_1 : (((q_L39).drop 40).take 40).all (q_ckL q_m39 7 prog_5_method_4_code 0) = true := by decide +kernel
set_option maxRecDepth 100000 in
theorem q_d39_2 : (((q_L39).drop 40).drop 40).all (q_ckL q_m39 7 prog_5_method_4_code 0) = true := by decide +kernel
theorem q_d39 : q_L39.all (q_ckL q_m39 7 prog_5_method_4_code 0) = true := q_sp 40 q_d39_0 (q_sp 40 q_d39_1 (q_d39_2))
set_option maxRecDepth 100000 in
theorem q_d40 : q_L40.all (q_ckL q_m40 2 prog_6_method_1_code 0) = true := by decide +kernel
set_option maxRecDepth 100000 in
theorem q_d41_0 : ((q_L41).take 40).all (q_ckL q_m41 2 prog_6_method_2_code 0) = true := by decide +kernel
set_option maxRecDepth 100000 in
theorem q_d41_1 : ((q_L41).drop 40).all (q_ckL q_m41 2 prog_6_method_2_code 0) = true := by decide +kernel
theorem q_d41 : q_L41.all (q_ckL q_m41 2 prog_6_method_2_code 0) = true := q_sp 40 q_d41_0 (q_d41_1)
set_option maxRecDepth 100000 in
theorem q_d42 : q_L42.all (q_ckL q_m42 2 prog_6_method_3_code 0) = true := by decide +kernel
set_option maxRecDepth 100000 in
theorem q_d43 : q_L43.all (q_ckL q_m43 1 prog_6_method_4_code 0) = true := by decide +kernel
set_option maxRecDepth 100000 in
theorem q_d44 : q_L44.all (q_ckL q_m44 2 prog_6_method_5_code 0) = true := by decide +kernel
set_option maxRecDepth 100000 in
theorem q_d45 : q_L45.all (q_ckL q_m45 3 prog_6_method_6_code 0) = true := by decide +kernel
set_option maxRecDepth 100000 in
theorem q_d46 : q_L46.all (q_ckL q_m46 4 prog_6_method_7_code 0) = true := by decide +kernel
set_option maxRecDepth 100000 in
theorem q_d47 : q_L47.all (q_ckL q_m47 3 prog_6_method_8_code 0) = true := by decide +kernel
set_option maxRecDepth 100000 in
theorem q_d48 : q_L48.all (q_ckL q_m48 3 prog_6_method_9_code 0) = true := by decide +kernel
set_option maxRecDepth 100000 in
theorem q_d49_0 : ((q_L49).take 40).all (q_ckL q_m49 3 prog_6_method_10_code 0) = true := by decide +kernel
set_option maxRecDepth 100000 in
theorem q_d49_1 : (((q_L49).drop 40).take 40).all (q_ckL q_m49 3 prog_6_method_10_code 0) = true := by decide +kernel
set_option maxRecDepth 100000 in
theorem q_d49_2 : (((q_L49).drop 40).drop 40).all (q_ckL q_m49 3 prog_6_method_10_code 0) = true := by decide +kernel
theorem q_d49 : q_L49.all (q_ckL q_m49 3 prog_6_method_10_code 0) = true := q_sp 40 q_d49_0 (q_sp 40 q_d49_1 (q_d49_2))
set_option maxRecDepth 100000 in
theorem q_d50 : q_L50.all (q_ckL q_m50 4 prog_6_method_11_code 0) = true := by decide +kernel
set_option maxRecDepth 100000 in
theorem q_d51 : q_L51.all (q_ckL q_m51 4 prog_6_method_12_code 0) = true := by decide +kernel
set_option maxRecDepth 100000 in
theorem q_d52_0 : ((q_L52).take 40).all (q_ckL q_m52 3 prog_6_method_13_code 0) = true := by decide +kernel
set_option maxRecDepth 100000 in
theorem q_d52_1 : (((q_L52).drop 40).take 40).all (q_ckL q_m52 3 prog_6_method_13_code 0) = true := by decide +kernel
set_option maxRecDepth 100000 in
theorem q_d52_2 : (((q_L52).drop 40).drop 40).all (q_ckL q_m52 3 prog_6_method_13_code 0) = true := by decide +kernel
theorem q_d52 : q_L52.all (q_ckL q_m52 3 prog_6_method_13_code 0) = true := q_sp 40 q_d52_0 (q_sp 40 q_d52_1 (q_d52_2))
set_option maxRecDepth 100000 in
theorem q_d53 : q_L53.all (q_ckL q_m53 2 prog_7_method_1_code 0) = true := by decide +kernel
set_option maxRecDepth 100000 in
theorem q_d54 : q_L54.all (q_ckL q_m54 2 prog_7_method_2_code 0) = true := by decide +kernel
set_option maxRecDepth 100000 in
theorem q_d55 : q_L55.all (q_ckL q_m55 4 prog_7_method_3_code 0) = true := by decide +kernel
set_option maxRecDepth 100000 in
theorem q_d56_0 : ((q_L56).take 40).all (q_ckL q_m56 4 prog_7_method_4_code 0) = true := by decide +kernel
set_option maxRecDepth 100000 in
theorem q_d56_1 : ((q_L56).drop 40).all (q_ckL q_m56 4 prog_7_method_4_code 0) = true := by decide +kernel
theorem q_d56 : q_L56.all (q_ckL q_m56 4 prog_7_method_4_code 0) = true := q_sp 40 q_d56_0 (q_d56_1)
set_option maxRecDepth 100000 in
theorem q_d57 : q_L57.all (q_ckL q_m57 1 prog_8_method_1_code 0) = true := by decide +kernel
set_option maxRecDepth 100000 in
theorem q_d58 : q_L58.all (q_ckL q_m58 2 prog_8_method_2_code 0) = true := by decide +kernel
set_option maxRecDepth 100000 in
theorem q_d59 : q_L59.all (q_ckL q_m59 2 prog_8_method_3_code 0) = true := by decide +kernel
set_option maxRecDepth 100000 in
theorem q_d60 : q_L60.all (q_ckL q_m60 2 prog_8_method_4_code 0) = true := by decide +kernel
set_option maxRecDepth 100000 in
theorem q_d61 : q_L61.all (q_ckL q_m61 4 prog_8_method_5_code 0) = true := by decide +kernel
set_option maxRecDepth 100000 in
theorem q_d62 : q_L62.all (q_ckL q_m62 5 prog_8_method_6_code 0) = true := by decide +kernel
set_option maxRecDepth 100000 in
theorem q_d63 : q_L63.all (q_ckL q_m63 4 prog_8_method_7_code 0) = true := by decide +kernel
set_option maxRecDepth 100000 in
theorem q_d64 : q_L64.all (q_ckL q_m64 1 prog_9_method_1_code 0) = true := by decide +kernel
set_option maxRecDepth 100000 in
theorem q_d65 : q_L65.all (q_ckL q_m65 3 prog_9_method_2_code 0) = true := by decide +kernel
set_option maxRecDepth 100000 in
theorem q_d66 : q_L66.all (q_ckL q_m66 2 prog_9_method_3_code 0) = true := by decide +kernel
set_option maxRecDepth 100000 in
theorem q_d67 : q_L67.all (q_ckL q_m67 3 prog_9_method_4_code 0) = true := by decide +kernel
set_option maxRecDepth 100000 in
theorem q_d68 : q_L68.all (q_ckL q_m68 3 prog_9_method_5_code 0) = true := by decide +kernel
set_option maxRecDepth 100000 in
theorem q_d69 : q_L69.all (q_ckL q_m69 3 prog_9_method_6_code 0) = true := by decide +kernel
set_option maxRecDepth 100000 in
theorem q_d70 : q_L70.all (q_ckL q_m70 2 prog_10_method_1_code 0) = true := by decide +kernel
set_option maxRecDepth 100000 in
theorem q_d71_0 : ((q_L71).take 40).all (q_ckL q_m71 7 prog_10_method_2_code 0) = true := by decide +kernel
set_option maxRecDepth 100000 in
theorem q_d71_1 : (((q_L71).drop 40).take 40).all (q_ckL q_m71 7 prog_10_method_2_code 0) = true := by decide +kernel
set_option maxRecDepth 100000 in
theorem q_d71_2 : (((q_L71).drop 40).drop 40).all (q_ckL q_m71 7 prog_10_method_2_code 0) = true := by decide +kernel
theorem q_d71 : q_L71.all (q_ckL q_m71 7 prog_10_method_2_code 0) = true := q_sp 40 q_d71_0 (q_sp 40 q_d71_1 (q_d71_2))
set_option maxRecDepth 100000 in
theorem q_d72_0 : ((q_L72).take 40).all (q_ckL q_m72 3 prog_10_method_3_code 0) = true := by decide +kernel
set_option maxRecDepth 100000 in
theorem q_d72_1 : ((q_L72).drop 40).all (q_ckL q_m72 3 prog_10_method_3_code 0) = true := by decide +kernel
theorem q_d72 : q_L72.all (q_ckL q_m72 3 prog_10_method_3_code 0) = true := q_sp 40 q_d72_0 (q_d72_1)
set_option maxRecDepth 100000 in
theorem q_d73_0 : ((q_L73).take 40).all (q_ckL q_m73 3 prog_10_method_4_code 0) = true := by decide +kernel
set_option maxRecDepth 100000 in
theorem q_d73_1 : ((q_L73).drop 40).all (q_ckL q_m73 3 prog_10_method_4_code 0) = true := by decide +kernel
theorem q_d73 : q_L73.all (q_ckL q_m73 3 prog_10_method_4_code 0) = true := q_sp 40 q_d73_0 (q_d73_1)
set_option maxRecDepth 100000 in
theorem q_d74 : q_L74.all (q_ckL q_m74 5 prog_10_method_5_code 0) = true := by decide +kernel
set_option maxRecDepth 100000 in
theorem q_d75 : q_L75.all (q_ckL q_m75 1 prog_10_method_6_code 0) = true := by decide +kernel
set_option maxRecDepth 100000 in
theorem q_d76 : q_L76.all (q_ckL q_m76 6 prog_10_method_7_code 0) = true := by decide +kernel
set_option maxRecDepth 100000 in
theorem q_d77 : q_L77.all (q_ckL q_m77 5 prog_10_method_8_code 0) = true := by decide +kernel
set_option maxRecDepth 100000 in
theorem q_d78_0 : ((q_L78).take 40).all (q_ckL q_m78 2 prog_11_method_1_code 0) = true := by decide +kernel
set_option maxRecDepth 100000 in
theorem q_d78_1 : ((q_L78).drop 40).all (q_ckL q_m78 2 prog_11_method_1_code 0) = true := by decide +kernel
theorem q_d78 : q_L78.all (q_ckL q_m78 2 prog_11_method_1_code 0) = true := q_sp 40 q_d78_0 (q_d78_1)
set_option maxRecDepth 100000 in
theorem q_d79 : q_L79.all (q_ckL q_m79 2 prog_11_method_2_code 0) = true := by decide +kernel
set_option maxRecDepth 100000 in
theorem q_d80_0 : ((q_L80).take 40).all (q_ckL q_m80 6 prog_11_method_3_code 0) = true := by decide +kernel
set_option maxRecDepth 100000 in
theorem q_d80_1 : (((q_L80).drop 40).take 40).all (q_ckL q_m80 6 prog_11_method_3_code 0) = true := by decide +kernel
set_option maxRecDepth 100000 in
theorem q_d80_2 : (((q_L80).drop 40).drop 40).all (q_ckL q_m80 6 prog_11_method_3_code 0) = true := by decide +kernel
theorem q_d80 : q_L80.all (q_ckL q_m80 6 prog_11_method_3_code 0) = true := q_sp 40 q_d80_0 (q_sp 40 q_d80_1 (q_d80_2))
set_option maxRecDepth 100000 in
theorem q_d81_0 : ((q_L81).take 40).all (q_ckL q_m81 3 prog_11_method_4_code 0) = true := by decide +kernel
set_option maxRecDepth 100000 in
theorem q_d81_1 : ((q_L81).drop 40).all (q_ckL q_m81 3 prog_11_method_4_code 0) = true := by decide +kernel
theorem q_d81 : q_L81.all (q_ckL q_m81 3 prog_11_method_4_code 0) = true := q_sp 40 q_d81_0 (q_d81_1)
set_option maxRecDepth 100000 in
theorem q_d82 : q_L82.all (q_ckL q_m82 7 prog_11_method_5_code 0) = true := by decide +kernel
set_option maxRecDepth 100000 in
theorem q_d83 : q_L83.all (q_ckL q_m83 1 prog_11_method_6_code 0) = true := by decide +kernel
set_option maxRecDepth 100000 in
theorem q_d84 : q_L84.all (q_ckL q_m84 3 prog_11_method_7_code 0) = true := by decide +kernel
set_option maxRecDepth 100000 in
theorem q_d85 : q_L85.all (q_ckL q_m85 4 prog_11_method_8_code 0) = true := by decide +kernel
set_option maxRecDepth 100000 in
theorem q_d86 : q_L86.all (q_ckL q_m86 5 prog_11_method_9_code 0) = true := by decide +kernel
set_option maxRecDepth 100000 in
theorem q_d87 : q_L87.all (q_ckL q_m87 5 prog_11_method_10_code 0) = true := by decide +kernel
set_option maxRecDepth 100000 in
theorem q_d88 : q_L88.all (q_ckL q_m88 6 prog_11_method_11_code 0) = true := by decide +kernel
set_option maxRecDepth 100000 in
theorem q_d89 : q_L89.all (q_ckL q_m89 7 prog_11_method_12_code 0) = true := by decide +kernel
end
