section
set_option maxRecDepth 100000 in
theorem q_d200_0 : ((q_L200).take 40).all (q_ckL q_m200 8 prog_13_method_56_code 0) = true := by decide +kernel
set_option maxRecDepth 100000 in
theorem q_d200_1 : (((q_L200).drop 40).take 40).all (q_ckL q_m200 8 prog_13_method_56_code 0) = true := by decide +kernel
set_option maxRecDepth 100000 in
theorem q_d200_2 : ((((q_L200).drop 40).drop 40).take 40).all (q_ckL q_m200 8 prog_13_method_56_code 0) = true := by decide +kernel
set_option maxRecDepth 100000 in
theorem q_d200_3 : ((((q_L200).drop 40).drop 40).drop 40).all (q_ckL q_m200 8 prog_13_method_56_code 0) = true := by decide +kernel
theorem q_d200 : q_L200.all (q_ckL q_m200 8 prog_13_method_56_code 0) = true := q_sp 40 q_d200_0 (q_sp 40 q_d200_1 (q_sp 40 q_d200_2 (q_d200_3)))
set_option maxRecDepth 100000 in
theorem q_d201 : q_L201.all (q_ckL q_m201 3 prog_13_method_57_code 0) = true := by decide +kernel
set_option maxRecDepth 100000 in
theorem q_d202 : q_L202.all (q_ckL q_m202 3 prog_13_method_58_code 0) = true := by decide +kernel
set_option maxRecDepth 100000 in
theorem q_d203 : q_L203.all (q_ckL q_m203 2 prog_13_method_59_code 0) = true := by decide +kernel
set_option maxRecDepth 100000 in
theorem q_d204_0 : ((q_L204).take 40).all (q_ckL q_m204 4 prog_13_method_60_code 0) = true := by decide +kernel
set_option maxRecDepth 100000 in
theorem q_d204_1 : ((q_L204).drop 40).all (q_ckL q_m204 4 prog_13_method_60_code 0) = true := by decide +kernel
theorem q_d204 : q_L204.all (q_ckL q_m204 4 prog_13_method_60_code 0) = true := q_sp 40 q_d204_0 (q_d204_1)
set_option maxRecDepth 100000 in
theorem q_d205 : q_L205.all (q_ckL q_m205 6 prog_13_method_61_code 0) = true := by decide +kernel
set_option maxRecDepth 100000 in
theorem q_d206 : q_L206.all (q_ckL q_m206 2 prog_13_method_62_code 0) = true := by decide +kernel
set_option maxRecDepth 100000 in
theorem q_d207 : q_L207.all (q_ckL q_m207 6 prog_13_method_63_code 0) = true := by decide +kernel
set_option maxRecDepth 100000 in
theorem q_d208 : q_L208.all (q_ckL q_m208 3 prog_13_method_64_code 0) = true := by decide +kernel
set_option maxRecDepth 100000 in
theorem q_d209_0 : ((q_L209).take 40).all (q_ckL q_m209 6 prog_13_method_65_code 0) = true := by decide +kernel
set_option maxRecDepth 100000 in
theorem q_d209_1 : (((q_L209).drop 40).take 40).all (q_ckL q_m209 6 prog_13_method_65_code 0) = true := by decide +kernel
set_option maxRecDepth 100000 in
theorem q_d209_2 : (((q_L209).drop 40).drop 40).all (q_ckL q_m209 6 prog_13_method_65_code 0) = true := by decide +kernel
theorem q_d209 : q_L209.all (q_ckL q_m209 6 prog_13_method_65_code 0) = true := q_sp 40 q_d209_0 (q_sp 40 q_d209_1 (q_d209_2))
set_option maxRecDepth 100000 in
theorem q_d210 : q_L210.all (q_ckL q_m210 3 prog_13_method_66_code 0) = true := by decide +kernel
set_option maxRecDepth 100000 in
theorem q_d211_0 : ((q_L211).take 40).all (q_ckL q_m211 6 prog_13_method_67_code 0) = true := by decide +kernel
set_option maxRecDepth 100000 in
theorem q_d211_1 : (((q_L211).drop 40).take 40).all (q_ckL q_m211 6 prog_13_method_67_code 0) = true := by decide +kernel
set_option maxRecDepth 100000 in
theorem q_d211_2 : (((q_L211).drop 40).drop 40).all (q_ckL q_m211 6 prog_13_method_67_code 0) = true := by decide +kernel
theorem q_d211 : q_L211.all (q_ckL q_m211 6 prog_13_method_67_code 0) = true := q_sp 40 q_d211_0 (q_sp 40 q_d211_1 (q_d211_2))
set_option maxRecDepth 100000 in
theorem q_d212_0 : ((q_L212).take 40).all (q_ckL q_m212 7 prog_13_method_68_code 0) = true := by decide +kernel
set_option maxRecDepth 100000 in
theorem q_d212_1 : (((q_L212).drop 40).take 40).all (q_ckL q_m212 7 prog_13_method_68_code 0) = true := by decide +kernel
set_option maxRecDepth 100000 in
theorem q_d212_2 : (((q_L212).drop 40).drop 40).all (q_ckL q_m212 7 prog_13_method_68_code 0) = true := by decide +kernel
theorem q_d212 : q_L212.all (q_ckL q_m212 7 prog_13_method_68_code 0) = true := q_sp 40 q_d212_0 (q_sp 40 q_d212_1 (q_d212_2))
set_option maxRecDepth 100000 in
theorem q_d213_0 : ((q_L213).take 40).all (q_ckL q_m213 5 prog_13_method_69_code 0) = true := by decide +kernel
set_option maxRecDepth 100000 in
theorem q_d213_1 : ((q_L213).drop 40).all (q_ckL q_m213 5 prog_13_method_69_code 0) = true := by decide +kernel
theorem q_d213 : q_L213.all (q_ckL q_m213 5 prog_13_method_69_code 0) = true := q_sp 40 q_d213_0 (q_d213_1)
set_option maxRecDepth 100000 in
theorem q_d214 : q_L214.all (q_ckL q_m214 4 prog_13_method_70_code 0) = true := by decide +kernel
set_option maxRecDepth 100000 in
theorem q_d215_0 : ((q_L215).take 40).all (q_ckL q_m215 7 prog_13_method_71_code 0) = true := by decide +kernel
set_option maxRecDepth 100000 in
theorem q_d215_1 : ((q_L215).drop 40).all (q_ckL q_m215 7 prog_13_method_71_code 0) = true := by decide +kernel
theorem q_d215 : q_L215.all (q_ckL q_m215 7 prog_13_method_71_code 0) = true := q_sp 40 q_d215_0 (q_d215_1)
set_option maxRecDepth 100000 in
theorem q_d216 : q_L216.all (q_ckL q_m216 2 prog_13_method_72_code 0) = true := by decide +kernel
set_option maxRecDepth 100000 in
theorem q_d217 : q_L217.all (q_ckL q_m217 5 prog_13_method_73_code 0) = true := by decide +kernel
set_option maxRecDepth 100000 in
theorem q_d218 : q_L218.all (q_ckL q_m218 3 prog_13_method_74_code 0) = true := by decide +kernel
set_option maxRecDepth 100000 in
theorem q_d219 : q_L219.all (q_ckL q_m219 3 prog_13_method_75_code 0) = true := by decide +kernel
set_option maxRecDepth 100000 in
theorem q_d220_0 : ((q_L220).take 40).all (q_ckL q_m220 9 prog_13_method_76_code 0) = true := by decide +kernel
set_option maxRecDepth 100000 in
theorem q_d220_1 : ((q_L220).drop 40).all (q_ckL q_m220 9 prog_13_method_76_code 0) = true := by decide +kernel
theorem q_d220 : q_L220.all (q_ckL q_m220 9 prog_13_method_76_code 0) = true := q_sp 40 q_d220_0 (q_d220_1)
set_option maxRecDepth 100000 in
theorem q_d221_0 : ((q_L221).take 40).all (q_ckL q_m221 3 prog_13_method_77_code 0) = true := by decide +kernel
set_option maxRecDepth 100000 in
theorem q_d221_1 : ((q_L221).drop 40).all (q_ckL q_m221 3 prog_13_method_77_code 0) = true := by decide +kernel
theorem q_d221 : q_L221.all (q_ckL q_m221 3 prog_13_method_77_code 0) = true := q_sp 40 q_d221_0 (q_d221_1)
set_option maxRecDepth 100000 in
theorem q_d222 : q_L222.all (q_ckL q_m222 2 prog_13_method_78_code 0) = true := by decide +kernel
set_option maxRecDepth 100000 in
theorem q_d223 : q_L223.all (q_ckL q_m223 6 prog_13_method_79_code 0) = true := by decide +kernel
set_option maxRecDepth 100000 in
theorem q_d224 : q_L224.all (q_ckL q_m224 2 prog_13_method_80_code 0) = true := by decide +kernel
set_option maxRecDepth 100000 in
theorem q_d225_0 : ((q_L225).take 40).all (q_ckL q_m225 5 prog_13_method_81_code 0) = true := by decide +kernel
set_option maxRecDepth 100000 in
theorem q_d225_1 : ((q_L225).drop 40).all (q_ckL q_m225 5 prog_13_method_81_code 0) = true := by decide +kernel
theorem q_d225 : q_L225.all (q_ckL q_m225 5 prog_13_method_81_code 0) = true := q_sp 40 q_d225_0 (q_d225_1)
set_option maxRecDepth 100000 in
theorem q_d226 : q_L226.all (q_ckL q_m226 10 prog_13_method_82_code 0) = true := by decide +kernel
set_option maxRecDepth 100000 in
theorem q_d227 : q_L227.all (q_ckL q_m227 7 prog_13_method_83_code 0) = true := by decide +kernel
set_option maxRecDepth 100000 in
theorem q_d228_0 : ((q_L228).take 40).all (q_ckL q_m228 7 prog_13_method_84_code 0) = true := by decide +kernel
set_option maxRecDepth 100000 in
theorem q_d228_1 : ((q_L228).drop 40).all (q_ckL q_m228 7 prog_13_method_84_code 0) = true := by decide +kernel
theorem q_d228 : q_L228.all (q_ckL q_m228 7 prog_13_method_84_code 0) = true := q_sp 40 q_d228_0 (q_d228_1)
set_option maxRecDepth 100000 in
theorem q_d229_0 : ((q_L229).take 40).all (q_ckL q_m229 8 prog_13_method_85_code 0) = true := by decide +kernel
set_option maxRecDepth 100000 in
theorem q_d229_1 : ((q_L229).drop 40).all (q_ckL q_m229 8 prog_13_method_85_code 0) = true := by decide +kernel
theorem q_d229 : q_L229.all (q_ckL q_m229 8 prog_13_method_85_code 0) = true := q_sp 40 q_d229_0 (q_d229_1)
set_option maxRecDepth 100000 in
theorem q_d230_0 : ((q_L230).take 40).all (q_ckL q_m230 5 prog_13_method_86_code 0) = true := by decide +kernel
set_option maxRecDepth 100000 in
theorem q_d230_1 : ((q_L230).drop 40).all (q_ckL q_m230 5 prog_13_method_86_code 0) = true := by decide +kernel
theorem q_d230 : q_L230.all (q_ckL q_m230 5 prog_13_method_86_code 0) = true := q_sp 40 q_d230_0 (q_d230_1)
set_option maxRecDepth 100000 in
theorem q_d231 : q_L231.all (q_ckL q_m231 5 prog_13_method_87_code 0) = true := by decide +kernel
set_option maxRecDepth 100000 in
theorem q_d232_0 : ((q_L232).take 40).all (q_ckL q_m232 5 prog_13_method_88_code 0) = true := by decide +kernel
set_option maxRecDepth 100000 in
theorem q_d232_1 : ((q_L232).drop 40).all (q_ckL q_m232 5 prog_13_method_88_code 0) = true := by decide +kernel
theorem q_d232 : q_L232.all (q_ckL q_m232 5 prog_13_method_88_code 0) = true := q_sp 40 q_d232_0 (q_d232_1)
set_option maxRecDepth 100000 in
theorem q_d233_0 : ((q_L233).take 40).all (q_ckL q_m233 3 prog_13_method_89_code 0) = true := by decide +kernel
set_option maxRecDepth 100000 in
theorem q_d233_1 : ((q_L233).drop 40).all (q_ckL q_m233 3 prog_13_method_89_code 0) = true := by decide +kernel
theorem q_d233 : q_L233.all (q_ckL q_m233 3 prog_13_method_89_code 0) = true := q_sp 40 q_d233_0 (q_d233_1)
set_option maxRecDepth 100000 in
theorem q_d234 : q_L234.all (q_ckL q_m234 1 prog_13_method_90_code 0) = true := by decide +kernel
set_option maxRecDepth 100000 in
theorem q_d235_0 : ((q_L235).take 40).all (q_ckL q_m235 3 prog_13_method_91_code 0) = true := by decide +kernel
set_option maxRecDepth 100000 in
theorem q_d235_1 : ((q_L235).drop 40).all (q_ckL q_m235 3 prog_13_method_91_code 0) = true := by decide +kernel
theorem q_d235 : q_L235.all (q_ckL q_m235 3 prog_13_method_91_code 0) = true := q_sp 40 q_d235_0 (q_d235_1)
set_option maxRecDepth 100000 in
theorem q_d236 : q_L236.all (q_ckL q_m236 3 prog_13_method_92_code 0) = true := by decide +kernel
set_option maxRecDepth 100000 in
theorem q_d237 : q_L237.all (q_ckL q_m237 5 prog_13_method_93_code 0) = true := by decide +kernel
set_option maxRecDepth 100000 in
theorem q_d238 : q_L238.all (q_ckL q_m238 3 prog_13_method_94_code 0) = true := by decide +kernel
set_option maxRecDepth 100000 in
theorem q_d239_0 : ((q_L239).take 40).all (q_ckL q_m239 13 prog_13_method_95_code 0) = true := by decide +kernel
set_option maxRecDepth 100000 in
theorem q_d239_1 : ((q_L239).drop 40).all (q_ckL q_m239 13 prog_13_method_95_code 0) = true := by decide +kernel
theorem q_d239 : q_L239.all (q_ckL q_m239 13 prog_13_method_95_code 0) = true := q_sp 40 q_d239_0 (q_d239_1)
set_option maxRecDepth 100000 in
theorem q_d240_0 : ((q_L240).take 40).all (q_ckL q_m240 6 prog_13_method_96_code 0) = true := by decide +kernel
set_option maxRecDepth 100000 in
theorem q_d240_1 : ((q_L240).drop 40).all (q_ckL q_m240 6 prog_13_method_96_code 0) = true := by decide +kernel
theorem q_d240 : q_L240.all (q_ckL q_m240 6 prog_13_method_96_code 0) = true := q_sp 40 q_d240_0 (q_d240_1)
set_option maxRecDepth 100000 in
theorem q_d241_0 : ((q_L241).take 40).all (q_ckL q_m241 6 prog_13_method_97_code 0) = true := by decide +kernel
set_option maxRecDepth 100000 in
theorem q_d241_1 : ((q_L241).drop 40).all (q_ckL q_m241 6 prog_13_method_97_code 0) = true := by decide +kernel
theorem q_d241 : q_L241.all (q_ckL q_m241 6 prog_13_method_97_code 0) = true := q_sp 40 q_d241_0 (q_d241_1)
set_option maxRecDepth 100000 in
theorem q_d242_0 : ((q_L242).take 40).all (q_ckL q_m242 6 prog_13_method_98_code 0) = true := by decide +kernel
set_option maxRecDepth 100000 in
theorem q_d242_1 : ((q_L242).drop 40).all (q_ckL q_m242 6 prog_13_method_98_code 0) = true := by decide +kernel
theorem q_d242 : q_L242.all (q_ckL q_m242 6 prog_13_method_98_code 0) = true := q_sp 40 q_d242_0 (q_d242_1)
set_option maxRecDepth 100000 in
theorem q_d243_0 : ((q_L243).take 40).all (q_ckL q_m243 17 prog_13_method_99_code 0) = true := by decide +kernel
set_option maxRecDepth 100000 in
theorem q_d243_1 : (((q_L243).drop 40).take 40).all (q_ckL q_m243 17 prog_13_method_99_code 0) = true := by decide +kernel
set_option maxRecDepth 100000 in
theorem q_d243_2 : ((((q_L243).drop 40).drop 40).take 40).all (q_ckL q_m243 17 prog_13_method_99_code 0) = true := by decide +kernel
set_option maxRecDepth 100000 in
theorem q_d243_3 : ((((q_L243).drop 40).drop 40).drop 40).all (q_ckL q_m243 17 prog_13_method_99_code 0) = true := by decide +kernel
theorem q_d243 : q_L243.all (q_ckL q_m243 17 prog_13_method_99_code 0) = true := q_sp 40 q_d243_0 (q_sp 40 q_d243_1 (q_sp 40 q_d243_2 (q_d243_3)))
set_option maxRecDepth 100000 in
theorem q_d244 : q_L244.all (q_ckL q_m244 4 prog_13_method_100_code 0) = true := by decide +kernel
set_option maxRecDepth 100000 in
theorem q_d245_0 : ((q_L245).take 40).all (q_ckL q_m245 7 prog_13_method_101_code 0) = true := by decide +kernel
set_option maxRecDepth 100000 in
theorem q_d245_1 : ((q_L245).drop 40).all (q_ckL q_m245 7 prog_13_method_101_code 0) = true := by decide +kernel
theorem q_d245 : q_L245.all (q_ckL q_m245 7 prog_13_method_101_code 0) = true := q_sp 40 q_d245_0 (q_d245_1)
set_option maxRecDepth 100000 in
theorem q_d246_0 : ((q_L246).take 40).all (q_ckL q_m246 5 prog_13_method_102_code 0) = true := by decide +kernel
set_option maxRecDepth 100000 in
theorem q_d246_1 : ((q_L246).drop 40).all (q_ckL q_m246 5 prog_13_method_102_code 0) = true := by decide +kernel
theorem q_d246 : q_L246.all (q_ckL q_m246 5 prog_13_method_102_code 0) = true := q_sp 40 q_d246_0 (q_d246_1)
set_option maxRecDepth 100000 in
theorem q_d247_0 : ((q_L247).take 40).all (q_ckL q_m247 8 prog_13_method_103_code 0) = true := by decide +kernel
set_option maxRecDepth 100000 in
theorem q_d247_1 : ((q_L247).drop 40).all (q_ckL q_m247 8 prog_13_method_103_code 0) = true := by decide +kernel
theorem q_d247 : q_L247.all (q_ckL q_m247 8 prog_13_method_103_code 0) = true := q_sp 40 q_d247_0 (q_d247_1)
set_option maxRecDepth 100000 in
theorem q_d248_0 : ((q_L248).take 40).all (q_ckL q_m248 12 prog_13_method_104_code 0) = true := by decide +kernel
set_option maxRecDepth 100000 in
theorem q_d248_1 : ((q_L248).drop 40).all (q_ckL q_m248 12 prog_13_method_104_code 0) = true := by decide +kernel
theorem q_d248 : q_L248.all (q_ckL q_m248 12 prog_13_method_104_code 0) = true := q_sp 40 q_d248_0 (q_d248_1)
set_option maxRecDepth 100000 in
theorem q_d249 : q_L249.all (q_ckL q_m249 2 prog_13_method_105_code 0) = true := by decide +kernel
set_option maxRecDepth 100000 in
theorem q_d250 : q_L250.all (q_ckL q_m250 4 prog_13_method_106_code 0) = true := by decide +kernel
set_option maxRecDepth 100000 in
theorem q_d251_0 : ((q_L251).take 40).all (q_ckL q_m251 3 prog_13_method_107_code 0) = true := by decide +kernel
set_option maxRecDepth 100000 in
theorem q_d251_1 : ((q_L251).drop 40).all (q_ckL q_m251 3 prog_13_method_107_code 0) = true := by decide +kernel
theorem q_d251 : q_L251.all (q_ckL q_m251 3 prog_13_method_107_code 0) = true := q_sp 40 q_d251_0 (q_d251_1)
set_option maxRecDepth 100000 in
theorem q_d252 : q_L252.all (q_ckL q_m252 2 prog_13_method_108_code 0) = true := by decide +kernel
set_option maxRecDepth 100000 in
theorem q_d253_0 : ((q_L253).take 40).all (q_ckL q_m253 4 prog_13_method_109_code 0) = true := by decide +kernel
set_option maxRecDepth 100000 in
theorem q_d253_1 : (((q_L253).drop 40).take 40).all (q_ckL q_m253 4 prog_13_method_109_code 0) = true := by decide +kernel
set_option maxRecDepth 100000 in
theorem q_d253_2 : (((q_L253).drop 40).drop 40).all (q_ckL q_m253 4 prog_13_method_109_code 0) = true := by decide +kernel
theorem q_d253 : q_L253.all (q_ckL q_m253 4 prog_13_method_109_code 0) = true := q_sp 40 q_d253_0 (q_sp 40 q_d253_1 (q_d253_2))
set_option maxRecDepth 100000 in
theorem q_d254_0 : ((q_L254).take 40).all (q_ckL q_m254 5 prog_13_method_110_code 0) = true := by decide +kernel
set_option maxRecDepth 100000 in
theorem q_d254_1 : (((q_L254).drop 40).take 40).all (q_ckL q_m254 5 prog_13_method_110_code 0) = true := by decide +kernel
set_option maxRecDepth 100000 in
theorem q_d254_2 : ((((q_L254).drop 40).drop 40).take 40).all (q_ckL q_m254 5 prog_13_method_110_code 0) = true := by decide +kernel
set_option maxRecDepth 100000 in
theorem q_d254_3 : ((((q_L254).drop 40).drop 40).drop 40).all (q_ckL q_m254 5 prog_13_method_110_code 0) = true := by decide +kernel
theorem q_d254 : q_L254.all (q_ckL q_m254 5 prog_13_method_110_code 0) = true := q_sp 40 q_d254_0 (q_sp 40 q_d254_1 (q_sp 40 q_d254_2 (q_d254_3)))
set_option maxRecDepth 100000 in
theorem q_d255 : q_L255.all (q_ckL q_m255 6 prog_15_method_49_code 0) = true := by decide +kernel
set_option maxRecDepth 100000 in
theorem q_d256 : q_L256.all (q_ckL q_m256 1 prog_15_method_59_code 0) = true := by decide +kernel
set_option maxRecDepth 100000 in
theorem q_d257 : q_L257.all (q_ckL q_m257 2 prog_15_method_61_code 0) = true := by decide +kernel
set_option maxRecDepth 100000 in
theorem q_d258 : q_L258.all (q_ckL q_m258 2 prog_15_method_65_code 0) = true := by decide +kernel
set_option maxRecDepth 100000 in
theorem q_d259 : q_L259.all (q_ckL q_m259 4 prog_15_method_66_code 0) = true := by decide +kernel
set_option maxRecDepth 100000 in
theorem q_d260 : q_L260.all (q_ckL q_m260 2 prog_15_method_69_code 0) = true := by decide +kernel
set_option maxRecDepth 100000 in
theorem q_d261 : q_L261.all (q_ckL q_m261 4 prog_15_method_70_code 0) = true := by decide +kernel
set_option maxRecDepth 100000 in
theorem q_d262 : q_L262.all (q_ckL q_m262 4 prog_20_method_103_code 0) = true := by decide +kernel
set_option maxRecDepth 100000 in
theorem q_d263 : q_L263.all (q_ckL q_m263 3 prog_20_method_123_code 317) = true := by decide +kernel
end
