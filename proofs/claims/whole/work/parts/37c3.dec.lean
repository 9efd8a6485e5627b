section
set_option maxRecDepth 100000 in
theorem q_d146 : q_L146.all (q_ckL q_m146 6 prog_13_method_2_code 0) = true := by decide +kernel
set_option maxRecDepth 100000 in
theorem q_d147_0 : ((q_L147).take 40).all (q_ckL q_m147 8 prog_13_method_3_code 0) = true := by decide +kernel
set_option maxRecDepth 100000 in
theorem q_d147_1 : ((q_L147).drop 40).all (q_ckL q_m147 8 prog_13_method_3_code 0) = true := by decide +kernel
theorem q_d147 : q_L147.all (q_ckL q_m147 8 prog_13_method_3_code 0) = true := q_sp 40 q_d147_0 (q_d147_1)
set_option maxRecDepth 100000 in
theorem q_d148 : q_L148.all (q_ckL q_m148 2 prog_13_method_4_code 0) = true := by decide +kernel
set_option maxRecDepth 100000 in
theorem q_d149 : q_L149.all (q_ckL q_m149 3 prog_13_method_5_code 0) = true := by decide +kernel
set_option maxRecDepth 100000 in
theorem q_d150 : q_L150.all (q_ckL q_m150 1 prog_13_method_6_code 0) = true := by decide +kernel
set_option maxRecDepth 100000 in
theorem q_d151 : q_L151.all (q_ckL q_m151 1 prog_13_method_7_code 0) = true := by decide +kernel
set_option maxRecDepth 100000 in
theorem q_d152 : q_L152.all (q_ckL q_m152 1 prog_13_method_8_code 0) = true := by decide +kernel
set_option maxRecDepth 100000 in
theorem q_d153_0 : ((q_L153).take 40).all (q_ckL q_m153 4 prog_13_method_9_code 0) = true := by decide +kernel
set_option maxRecDepth 100000 in
theorem q_d153_1 : ((q_L153).drop 40).all (q_ckL q_m153 4 prog_13_method_9_code 0) = true := by decide +kernel
theorem q_d153 : q_L153.all (q_ckL q_m153 4 prog_13_method_9_code 0) = true := q_sp 40 q_d153_0 (q_d153_1)
set_option maxRecDepth 100000 in
theorem q_d154 : q_L154.all (q_ckL q_m154 2 prog_13_method_10_code 0) = true := by decide +kernel
set_option maxRecDepth 100000 in
theorem q_d155 : q_L155.all (q_ckL q_m155 2 prog_13_method_11_code 0) = true := by decide +kernel
set_option maxRecDepth 100000 in
theorem q_d156 : q_L156.all (q_ckL q_m156 2 prog_13_method_12_code 0) = true := by decide +kernel
set_option maxRecDepth 100000 in
theorem q_d157 : q_L157.all (q_ckL q_m157 2 prog_13_method_13_code 0) = true := by decide +kernel
set_option maxRecDepth 100000 in
theorem q_d158_0 : ((q_L158).take 40).all (q_ckL q_m158 5 prog_13_method_14_code 0) = true := by decide +kernel
set_option maxRecDepth 100000 in
theorem q_d158_1 : (((q_L158).drop 40).take 40).all (q_ckL q_m158 5 prog_13_method_14_code 0) = true := by decide +kernel
set_option maxRecDepth 100000 in
theorem q_d158_2 : (((q_L158).drop 40).drop 40).all (q_ckL q_m158 5 prog_13_method_14_code 0) = true := by decide +kernel
theorem q_d158 : q_L158.all (q_ckL q_m158 5 prog_13_method_14_code 0) = true := q_sp 40 q_d158_0 (q_sp 40 q_d158_1 (q_d158_2))
set_option maxRecDepth 100000 in
theorem q_d159 : q_L159.all (q_ckL q_m159 1 prog_13_method_15_code 0) = true := by decide +kernel
set_option maxRecDepth 100000 in
theorem q_d160 : q_L160.all (q_ckL q_m160 3 prog_13_method_16_code 0) = true := by decide +kernel
set_option maxRecDepth 100000 in
theorem q_d161 : q_L161.all (q_ckL q_m161 4 prog_13_method_17_code 0) = true := by decide +kernel
set_option maxRecDepth 100000 in
theorem q_d162_0 : ((q_L162).take 40).all (q_ckL q_m162 7 prog_13_method_18_code 0) = true := by decide +kernel
set_option maxRecDepth 100000 in
theorem q_d162_1 : (((q_L162).drop 40).take 40).all (q_ckL q_m162 7 prog_13_method_18_code 0) = true := by decide +kernel
set_option maxRecDepth 100000 in
theorem q_d162_2 : ((((q_L162).drop 40).drop 40).take 40).all (q_ckL q_m162 7 prog_13_method_18_code 0) = true := by decide +kernel
set_option maxRecDepth 100000 in
theorem q_d162_3 : ((((q_L162).drop 40).drop 40).drop 40).all (q_ckL q_m162 7 prog_13_method_18_code 0) = true := by decide +kernel
theorem q_d162 : q_L162.all (q_ckL q_m162 7 prog_13_method_18_code 0) = true := q_sp 40 q_d162_0 (q_sp 40 q_d162_1 (q_sp 40 q_d162_2 (q_d162_3)))
set_option maxRecDepth 100000 in
theorem q_d163_0 : ((q_L163).take 40).all (q_ckL q_m163 11 prog_13_method_19_code 0) = true := by decide +kernel
set_option maxRecDepth 100000 in
theorem q_d163_1 : (((q_L163).drop 40).take 40).all (q_ckL q_m163 11 prog_13_method_19_code 0) = true := by decide +kernel
set_option maxRecDepth 100000 in
theorem q_d163_2 : (((q_L163).drop 40).drop 40).all (q_ckL q_m163 11 prog_13_method_19_code 0) = true := by decide +kernel
theorem q_d163 : q_L163.all (q_ckL q_m163 11 prog_13_method_19_code 0) = true := q_sp 40 q_d163_0 (q_sp 40 q_d163_1 (q_d163_2))
set_option maxRecDepth 100000 in
theorem q_d164 : q_L164.all (q_ckL q_m164 2 prog_13_method_20_code 0) = true := by decide +kernel
set_option maxRecDepth 100000 in
theorem q_d165 : q_L165.all (q_ckL q_m165 2 prog_13_method_21_code 0) = true := by decide +kernel
set_option maxRecDepth 100000 in
theorem q_d166_0 : ((q_L166).take 40).all (q_ckL q_m166 4 prog_13_method_22_code 0) = true := by decide +kernel
set_option maxRecDepth 100000 in
theorem q_d166_1 : ((q_L166).drop 40).all (q_ckL q_m166 4 prog_13_method_22_code 0) = true := by decide +kernel
theorem q_d166 : q_L166.all (q_ckL q_m166 4 prog_13_method_22_code 0) = true := q_sp 40 q_d166_0 (q_d166_1)
set_option maxRecDepth 100000 in
theorem q_d167 : q_L167.all (q_ckL q_m167 2 prog_13_method_23_code 0) = true := by decide +kernel
set_option maxRecDepth 100000 in
theorem q_d168 : q_L168.all (q_ckL q_m168 3 prog_13_method_24_code 0) = true := by decide +kernel
set_option maxRecDepth 100000 in
theorem q_d169 : q_L169.all (q_ckL q_m169 2 prog_13_method_25_code 0) = true := by decide +kernel
set_option maxRecDepth 100000 in
theorem q_d170 : q_L170.all (q_ckL q_m170 1 prog_13_method_26_code 0) = true := by decide +kernel
set_option maxRecDepth 100000 in
theorem q_d171 : q_L171.all (q_ckL q_m171 2 prog_13_method_27_code 0) = true := by decide +kernel
set_option maxRecDepth 100000 in
theorem q_d172 : q_L172.all (q_ckL q_m172 2 prog_13_method_28_code 0) = true := by decide +kernel
set_option maxRecDepth 100000 in
theorem q_d173 : q_L173.all (q_ckL q_m173 1 prog_13_method_29_code 0) = true := by decide +kernel
set_option maxRecDepth 100000 in
theorem q_d174_0 : ((q_L174).take 40).all (q_ckL q_m174 5 prog_13_method_30_code 0) = true := by decide +kernel
set_option maxRecDepth 100000 in
theorem q_d174_1 : (((q_L174).drop 40).take 40).all (q_ckL q_m174 5 prog_13_method_30_code 0) = true := by decide +kernel
set_option maxRecDepth 100000 in
theorem q_d174_2 : ((((q_L174).drop 40).drop 40).take 40).all (q_ckL q_m174 5 prog_13_method_30_code 0) = true := by decide +kernel
set_option maxRecDepth 100000 in
theorem q_d174_3 : ((((q_L174).drop 40).drop 40).drop 40).all (q_ckL q_m174 5 prog_13_method_30_code 0) = true := by decide +kernel
theorem q_d174 : q_L174.all (q_ckL q_m174 5 prog_13_method_30_code 0) = true := q_sp 40 q_d174_0 (q_sp 40 q_d174_1 (q_sp 40 q_d174_2 (q_d174_3)))
set_option maxRecDepth 100000 in
theorem q_d175_0 : ((q_L175).take 40).all (q_ckL q_m175 2 prog_13_method_31_code 0) = true := by decide +kernel
set_option maxRecDepth 100000 in
theorem q_d175_1 : (((q_L175).drop 40).take 40).all (q_ckL q_m175 2 prog_13_method_31_code 0) = true := by decide +kernel
set_option maxRecDepth 100000 in
theorem q_d175_2 : ((((q_L175).drop 40).drop 40).take 40).all (q_ckL q_m175 2 prog_13_method_31_code 0) = true := by decide +kernel
set_option maxRecDepth 100000 in
theorem q_d175_3 : (((((q_L175).drop 40).drop 40).drop 40).take 40).all (q_ckL q_m175 2 prog_13_method_31_code 0) = true := by decide +kernel
set_option maxRecDepth 100000 in
theorem q_d175_4 : ((((((q_L175).drop 40).drop 40).drop 40).drop 40).take 40).all (q_ckL q_m175 2 prog_13_method_31_code 0) = true := by decide +kernel
set_option maxRecDepth 100000 in
theorem q_d175_5 : ((((((q_L175).drop 40).drop 40).drop 40).drop 40).drop 40).all (q_ckL q_m175 2 prog_13_method_31_code 0) = true := by decide +kernel
theorem q_d175 : q_L175.all (q_ckL q_m175 2 prog_13_method_31_code 0) = true := q_sp 40 q_d175_0 (q_sp 40 q_d175_1 (q_sp 40 q_d175_2 (q_sp 40 q_d175_3 (q_sp 40 q_d175_4 (q_d175_5)))))
set_option maxRecDepth 100000 in
theorem q_d176_0 : ((q_L176).take 40).all (q_ckL q_m176 3 prog_13_method_32_code 0) = true := by decide +kernel
set_option maxRecDepth 100000 in
theorem q_d176_1 : ((q_L176).drop 40).all (q_ckL q_m176 3 prog_13_method_32_code 0) = true := by decide +kernel
theorem q_d176 : q_L176.all (q_ckL q_m176 3 prog_13_method_32_code 0) = true := q_sp 40 q_d176_0 (q_d176_1)
set_option maxRecDepth 100000 in
theorem q_d177_0 : ((q_L177).take 40).all (q_ckL q_m177 2 prog_13_method_33_code 0) = true := by decide +kernel
set_option maxRecDepth 100000 in
theorem q_d177_1 : ((q_L177).drop 40).all (q_ckL q_m177 2 prog_13_method_33_code 0) = true := by decide +kernel
theorem q_d177 : q_L177.all (q_ckL q_m177 2 prog_13_method_33_code 0) = true := q_sp 40 q_d177_0 (q_d177_1)
set_option maxRecDepth 100000 in
theorem q_d178 : q_L178.all (q_ckL q_m178 2 prog_13_method_34_code 0) = true := by decide +kernel
set_option maxRecDepth 100000 in
theorem q_d179 : q_L179.all (q_ckL q_m179 1 prog_13_method_35_code 0) = true := by decide +kernel
set_option maxRecDepth 100000 in
theorem q_d180_0 : ((q_L180).take 40).all (q_ckL q_m180 3 prog_13_method_36_code 0) = true := by decide +kernel
set_option maxRecDepth 100000 in
theorem q_d180_1 : ((q_L180).drop 40).all (q_ckL q_m180 3 prog_13_method_36_code 0) = true := by decide +kernel
theorem q_d180 : q_L180.all (q_ckL q_m180 3 prog_13_method_36_code 0) = true := q_sp 40 q_d180_0 (q_d180_1)
set_option maxRecDepth 100000 in
theorem q_d181_0 : ((q_L181).take 40).all (q_ckL q_m181 1 prog_13_method_37_code 0) = true := by decide +kernel
set_option maxRecDepth 100000 in
theorem q_d181_1 : (((q_L181).drop 40).take 40).all (q_ckL q_m181 1 prog_13_method_37_code 0) = true := by decide +kernel
set_option maxRecDepth 100000 in
theorem q_d181_2 : (((q_L181).drop 40).drop 40).all (q_ckL q_m181 1 prog_13_method_37_code 0) = true := by decide +kernel
theorem q_d181 : q_L181.all (q_ckL q_m181 1 prog_13_method_37_code 0) = true := q_sp 40 q_d181_0 (q_sp 40 q_d181_1 (q_d181_2))
set_option maxRecDepth 100000 in
theorem q_d182_0 : ((q_L182).take 40).all (q_ckL q_m182 2 prog_13_method_38_code 0) = true := by decide +kernel
set_option maxRecDepth 100000 in
theorem q_d182_1 : ((q_L182).drop 40).all (q_ckL q_m182 2 prog_13_method_38_code 0) = true := by decide +kernel
theorem q_d182 : q_L182.all (q_ckL q_m182 2 prog_13_method_38_code 0) = true := q_sp 40 q_d182_0 (q_d182_1)
set_option maxRecDepth 100000 in
theorem q_d183_0 : ((q_L183).take 40).all (q_ckL q_m183 4 prog_13_method_39_code 0) = true := by decide +kernel
set_option maxRecDepth 100000 in
theorem q_d183_1 : (((q_L183).drop 40).take 40).all (q_ckL q_m183 4 prog_13_method_39_code 0) = true := by decide +kernel
set_option maxRecDepth 100000 in
theorem q_d183_2 : (((q_L183).drop 40).drop 40).all (q_ckL q_m183 4 prog_13_method_39_code 0) = true := by decide +kernel
theorem q_d183 : q_L183.all (q_ckL q_m183 4 prog_13_method_39_code 0) = true := q_sp 40 q_d183_0 (q_sp 40 q_d183_1 (q_d183_2))
set_option maxRecDepth 100000 in
theorem q_d184_0 : ((q_L184).take 40).all (q_ckL q_m184 5 prog_13_method_40_code 0) = true := by decide +kernel
set_option maxRecDepth 100000 in
theorem q_d184_1 : (((q_L184).drop 40).take 40).all (q_ckL q_m184 5 prog_13_method_40_code 0) = true := by decide +kernel
set_option maxRecDepth 100000 in
theorem q_d184_2 : ((((q_L184).drop 40).drop 40).take 40).all (q_ckL q_m184 5 prog_13_method_40_code 0) = true := by decide +kernel
set_option maxRecDepth 100000 in
theorem q_d184_3 : ((((q_L184).drop 40).drop 40).drop 40).all (q_ckL q_m184 5 prog_13_method_40_code 0) = true := by decide +kernel
theorem q_d184 : q_L184.all (q_ckL q_m184 5 prog_13_method_40_code 0) = true := q_sp 40 q_d184_0 (q_sp 40 q_d184_1 (q_sp 40 q_d184_2 (q_d184_3)))
set_option maxRecDepth 100000 in
theorem q_d185 : q_L185.all (q_ckL q_m185 2 prog_13_method_41_code 0) = true := by decide +kernel
set_option maxRecDepth 100000 in
theorem q_d186 : q_L186.all (q_ckL q_m186 1 prog_13_method_42_code 0) = true := by decide +kernel
set_option maxRecDepth 100000 in
theorem q_d187 : q_L187.all (q_ckL q_m187 2 prog_13_method_43_code 0) = true := by decide +kernel
set_option maxRecDepth 100000 in
theorem q_d188 : q_L188.all (q_ckL q_m188 3 prog_13_method_44_code 0) = true := by decide +kernel
set_option maxRecDepth 100000 in
theorem q_d189_0 : ((q_L189).take 40).all (q_ckL q_m189 4 prog_13_method_45_code 0) = true := by decide +kernel
set_option maxRecDepth 100000 in
theorem q_d189_1 : ((q_L189).drop 40).all (q_ckL q_m189 4 prog_13_method_45_code 0) = true := by decide +kernel
theorem q_d189 : q_L189.all (q_ckL q_m189 4 prog_13_method_45_code 0) = true := q_sp 40 q_d189_0 (q_d189_1)
set_option maxRecDepth 100000 in
theorem q_d190_0 : ((q_L190).take 40).all (q_ckL q_m190 4 prog_13_method_46_code 0) = true := by decide +kernel
set_option maxRecDepth 100000 in
theorem q_d190_1 : ((q_L190).drop 40).all (q_ckL q_m190 4 prog_13_method_46_code 0) = true := by decide +kernel
theorem q_d190 : q_L190.all (q_ckL q_m190 4 prog_13_method_46_code 0) = true := q_sp 40 q_d190_0 (q_d190_1)
set_option maxRecDepth 100000 in
theorem q_d191 : q_L191.all (q_ckL q_m191 3 prog_13_method_47_code 0) = true := by decide +kernel
set_option maxRecDepth 100000 in
theorem q_d192 : q_L192.all (q_ckL q_m192 2 prog_13_method_48_code 0) = true := by decide +kernel
set_option maxRecDepth 100000 in
theorem q_d193 : q_L193.all (q_ckL q_m193 3 prog_13_method_49_code 0) = true := by decide +kernel
set_option maxRecDepth 100000 in
theorem q_d194 : q_L194.all (q_ckL q_m194 2 prog_13_method_50_code 0) = true := by decide +kernel
set_option maxRecDepth 100000 in
theorem q_d195_0 : ((q_L195).take 40).all (q_ckL q_m195 7 prog_13_method_51_code 0) = true := by decide +kernel
set_option maxRecDepth 100000 in
theorem q_d195_1 : (((q_L195).drop 40).take 40).all (q_ckL q_m195 7 prog_13_method_51_code 0) = true := by decide +kernel
set_option maxRecDepth 100000 in
theorem q_d195_2 : ((((q_L195).drop 40).drop 40).take 40).all (q_ckL q_m195 7 prog_13_method_51_code 0) = true := by decide +kernel
set_option maxRecDepth 100000 in
theorem q_d195_3 : ((((q_L195).drop 40).drop 40).drop 40).all (q_ckL q_m195 7 prog_13_method_51_code 0) = true := by decide +kernel
theorem q_d195 : q_L195.all (q_ckL q_m195 7 prog_13_method_51_code 0) = true := q_sp 40 q_d195_0 (q_sp 40 q_d195_1 (q_sp 40 q_d195_2 (q_d195_3)))
set_option maxRecDepth 100000 in
theorem q_d196_0 : ((q_L196).take 40).all (q_ckL q_m196 8 prog_13_method_52_code 0) = true := by decide +kernel
set_option maxRecDepth 100000 in
theorem q_d196_1 : (((q_L196).drop 40).take 40).all (q_ckL q_m196 8 prog_13_method_52_code 0) = true := by decide +kernel
set_option maxRecDepth 100000 in
theorem q_d196_2 : (((q_L196).drop 40).drop 40).all (q_ckL q_m196 8 prog_13_method_52_code 0) = true := by decide +kernel
theorem q_d196 : q_L196.all (q_ckL q_m196 8 prog_13_method_52_code 0) = true := q_sp 40 q_d196_0 (q_sp 40 q_d196_1 (q_d196_2))
set_option maxRecDepth 100000 in
theorem q_d197_0 : ((q_L197).take 40).all (q_ckL q_m197 5 prog_13_method_53_code 0) = true := by decide +kernel
set_option maxRecDepth 100000 in
theorem q_d197_1 : ((q_L197).drop 40).all (q_ckL q_m197 5 prog_13_method_53_code 0) = true := by decide +kernel
theorem q_d197 : q_L197.all (q_ckL q_m197 5 prog_13_method_53_code 0) = true := q_sp 40 q_d197_0 (q_d197_1)
set_option maxRecDepth 100000 in
theorem q_d198_0 : ((q_L198).take 40).all (q_ckL q_m198 9 prog_13_method_54_code 0) = true := by decide +kernel
set_option maxRecDepth 100000 in
theorem q_d198_1 : (((q_L198).drop 40).take 40).all (q_ckL q_m198 9 prog_13_method_54_code 0) = true := by decide +kernel
set_option maxRecDepth 100000 in
theorem q_d198_2 : ((((q_L198).drop 40).drop 40).take 40).all (q_ckL q_m198 9 prog_13_method_54_code 0) = true := by decide +kernel
set_option maxRecDepth 100000 in
theorem q_d198_3 : ((((q_L198).drop 40).drop 40).drop 40).all (q_ckL q_m198 9 prog_13_method_54_code 0) = true := by decide +kernel
theorem q_d198 : q_L198.all (q_ckL q_m198 9 prog_13_method_54_code 0) = true := q_sp 40 q_d198_0 (q_sp 40 q_d198_1 (q_sp 40 q_d198_2 (q_d198_3)))
set_option maxRecDepth 100000 in
theorem q_d199_0 : ((q_L199).take 40).all (q_ckL q_m199 4 prog_13_method_55_code 0) = true := by decide +kernel
set_option maxRecDepth 100000 in
theorem q_d199_1 : ((q_L199).drop 40).all (q_ckL q_m199 4 prog_13_method_55_code 0) = true := by decide +kernel
theorem q_d199 : q_L199.all (q_ckL q_m199 4 prog_13_method_55_code 0) = true := q_sp 40 q_d199_0 (q_d199_1)
end
