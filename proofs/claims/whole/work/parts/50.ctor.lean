section
def q_o145 : List qOp := [(0, 14, 2100, 0), (1, 66, 0, 67), (2, 66, 8, -1), (0, 13, 4, 0), (2, 68, 0, 110), (2, 68, 1, 111), (2, 68, 2, 110), (2, 68, 3, 101), (1, 66, 9, 68), (0, 13, 5, 0), (2, 69, 0, 101), (2, 69, 1, 97), (2, 69, 2, 114), (2, 69, 3, 108), (2, 69, 4, 121), (1, 66, 10, 69), (0, 13, 4, 0), (2, 70, 0, 108), (2, 70, 1, 97), (2, 70, 2, 116), (2, 70, 3, 101), (1, 66, 11, 70), (0, 13, 4, 0), (2, 71, 0, 115), (2, 71, 1, 119), (2, 71, 2, 97), (2, 71, 3, 112), (1, 66, 12, 71), (0, 13, 5, 0), (2, 72, 0, 116), (2, 72, 1, 114), (2, 72, 2, 97), (2, 72, 3, 100), (2, 72, 4, 101), (1, 66, 13, 72), (0, 13, 5, 0), (2, 73, 0, 98), (2, 73, 1, 108), (2, 73, 2, 101), (2, 73, 3, 110), (2, 73, 4, 100), (1, 66, 14, 73), (0, 13, 4, 0), (2, 74, 0, 110), (2, 74, 1, 101), (2, 74, 2, 97), (2, 74, 3, 114), (1, 66, 15, 74), (0, 13, 5, 0), (2, 75, 0, 115), (2, 75, 1, 101), (2, 75, 2, 110), (2, 75, 3, 115), (2, 75, 4, 101), (1, 66, 16, 75), (0, 13, 4, 0), (2, 76, 0, 108), (2, 76, 1, 111), (2, 76, 2, 115), (2, 76, 3, 116), (1, 66, 17, 76), (0, 13, 4, 0), (2, 77, 0, 119), (2, 77, 1, 104), (2, 77, 2, 101), (2, 77, 3, 110), (1, 66, 18, 77), (0, 13, 2, 0), (2, 78, 0, 111), (2, 78, 1, 114), (1, 66, 19, 78), (0, 13, 3, 0), (2, 79, 0, 97), (2, 79, 1, 110), (2, 79, 2, 100), (1, 66, 20, 79), (0, 13, 3, 0), (2, 80, 0, 110), (2, 80, 1, 111), (2, 80, 2, 116), (1, 66, 21, 80), (0, 13, 3, 0), (2, 81, 0, 97), (2, 81, 1, 108), (2, 81, 2, 108), (1, 66, 22, 81), (0, 13, 4, 0), (2, 82, 0, 114), (2, 82, 1, 101), (2, 82, 2, 97), (2, 82, 3, 108), (1, 66, 23, 82), (0, 13, 3, 0), (2, 83, 0, 103), (2, 83, 1, 97), (2, 83, 2, 112), (1, 66, 24, 83), (0, 13, 5, 0), (2, 84, 0, 112), (2, 84, 1, 108), (2, 84, 2, 97), (2, 84, 3, 99), (2, 84, 4, 101), (1, 66, 25, 84), (0, 13, 5, 0), (2, 85, 0, 119), (2, 85, 1, 111), (2, 85, 2, 114), (2, 85, 3, 100), (2, 85, 4, 115), (1, 66, 26, 85), (0, 13, 5, 0), (2, 86, 0, 111), (2, 86, 1, 102), (2, 86, 2, 116), (2, 86, 3, 101), (2, 86, 4, 110), (1, 66, 27, 86), (0, 13, 3, 0), (2, 87, 0, 111), (2, 87, 1, 119), (2, 87, 2, 110), (1, 66, 28, 87), (0, 13, 4, 0), (2, 88, 0, 115), (2, 88, 1, 111), (2, 88, 2, 114), (2, 88, 3, 116), (1, 66, 29, 88), (0, 13, 3, 0), (2, 89, 0, 102), (2, 89, 1, 97), (2, 89, 2, 114), (1, 66, 30, 89), (0, 13, 3, 0), (2, 90, 0, 109), (2, 90, 1, 105), (2, 90, 2, 110), (1, 66, 31, 90), (0, 13, 3, 0), (2, 91, 0, 109), (2, 91, 1, 97), (2, 91, 2, 120), (1, 66, 32, 91), (0, 14, 240, 0), (1, 66, 34, 92), (0, 14, 30, 0), (1, 66, 35, 93), (0, 14, 30, 0), (1, 66, 36, 94), (0, 14, 30, 0), (1, 66, 37, 95), (0, 14, 30, 0), (1, 66, 38, 96), (0, 14, 30, 0), (1, 66, 39, 97), (0, 14, 12, 0), (1, 66, 41, 98), (0, 14, 72, 0), (1, 66, 42, 99), (0, 16, 6, 0), (1, 66, 43, 100), (0, 14, 6, 0), (1, 66, 44, 101), (0, 14, 120, 0), (1, 66, 45, 102), (0, 14, 120, 0), (1, 66, 46, 103), (0, 14, 120, 0), (1, 66, 47, 104), (0, 14, 120, 0), (1, 66, 48, 105), (0, 14, 12600, 0), (1, 66, 49, 106), (0, 14, 2200, 0), (1, 66, 51, 107), (2, 66, 56, -1), (0, 14, 640, 0), (1, 66, 57, 108), (0, 14, 640, 0), (1, 66, 58, 109), (0, 14, 640, 0), (1, 66, 59, 110), (0, 14, 66560, 0), (1, 66, 60, 111), (0, 14, 640, 0), (1, 66, 61, 112), (0, 14, 640, 0), (1, 66, 62, 113), (0, 14, 640, 0), (1, 66, 63, 114), (0, 16, 640, 0), (1, 66, 64, 115), (0, 14, 16, 0), (1, 66, 66, 116), (0, 15, 2200, 0), (1, 66, 68, 117), (0, 14, 640, 0), (1, 66, 70, 118), (0, 14, 104, 0), (1, 66, 72, 119), (0, 14, 20, 0), (1, 66, 74, 120), (0, 14, 20, 0), (1, 66, 75, 121), (0, 14, 2080, 0), (1, 66, 76, 122), (0, 14, 640, 0), (1, 66, 78, 123), (0, 16, 640, 0), (1, 66, 79, 124), (0, 14, 2100, 0), (1, 66, 80, 125)]
set_option maxRecDepth 100000 in
set_option maxHeartbeats 8000000 in
theorem c_145 {d : Nat} {P : Int → qM → Prop} {M : qM} (hT : q_top M = 67) (hk : q_kd M 66 = 11) (hP : P 0 (q_run q_o145 M)) : q_WP q_Pr (d + 1) 145 [.inr (.inr 66)] M P := by
  refine q_enter (s_145_0 ?_)
  simp only [q_o145, q_run, q_op] at hP
  simp [q_wn_top, q_wr_top, q_al_top, q_wn_kd, q_wr_kd, q_al_kd, q_wn_ln, q_wr_ln, q_al_ln, hT, hk, q_nk]
  exact hP
set_option maxRecDepth 100000 in
set_option maxHeartbeats 8000000 in
theorem c_64 {d : Nat} {P : Int → qM → Prop} {M : qM} {x0 T : Int} (hT : q_top M = T) (h0 : 0 ≤ x0) (h1 : x0 < T) (hk : q_kd M x0 = 7) (hP : P 0 (q_run [(0, 12, 2100, 0), (1, x0, 0, T)] M)) : q_WP q_Pr (d + 1) 64 [.inr (.inr x0)] M P := by
  refine q_enter (s_64_0 ?_)
  simp only [q_run, q_op] at hP
  have e1 : x0 ≠ T := by omega
  have e2 : x0 ≠ T + 1 := by omega
  have e3 : -1 ≤ T := by omega
  have e4 : -1 ≤ T + 1 := by omega
  simp [q_wn_top, q_wr_top, q_al_top, q_wn_kd, q_wr_kd, q_al_kd, q_wn_ln, q_wr_ln, q_al_ln, hT, hk, q_nk, e1, e2, e3, e4, h0]
  exact hP
set_option maxRecDepth 100000 in
set_option maxHeartbeats 8000000 in
theorem c_57 {d : Nat} {P : Int → qM → Prop} {M : qM} {x0 T : Int} (hT : q_top M = T) (h0 : 0 ≤ x0) (h1 : x0 < T) (hk : q_kd M x0 = 6) (hP : P 0 (q_run [(0, 12, 100, 0), (1, x0, 0, T)] M)) : q_WP q_Pr (d + 1) 57 [.inr (.inr x0)] M P := by
  refine q_enter (s_57_0 ?_)
  simp only [q_run, q_op] at hP
  have e1 : x0 ≠ T := by omega
  have e2 : x0 ≠ T + 1 := by omega
  have e3 : -1 ≤ T := by omega
  have e4 : -1 ≤ T + 1 := by omega
  simp [q_wn_top, q_wr_top, q_al_top, q_wn_kd, q_wr_kd, q_al_kd, q_wn_ln, q_wr_ln, q_al_ln, hT, hk, q_nk, e1, e2, e3, e4, h0]
  exact hP
set_option maxRecDepth 100000 in
set_option maxHeartbeats 8000000 in
theorem c_36 {d : Nat} {P : Int → qM → Prop} {M : qM} {x0 T : Int} (hT : q_top M = T) (h0 : 0 ≤ x0) (h1 : x0 < T) (hk : q_kd M x0 = 3) (hP : P 0 (q_run [(0, 12, 2042, 0), (1, x0, 0, T)] M)) : q_WP q_Pr (d + 1) 36 [.inr (.inr x0)] M P := by
  refine q_enter (s_36_0 ?_)
  simp only [q_run, q_op] at hP
  have e1 : x0 ≠ T := by omega
  have e2 : x0 ≠ T + 1 := by omega
  have e3 : -1 ≤ T := by omega
  have e4 : -1 ≤ T + 1 := by omega
  simp [q_wn_top, q_wr_top, q_al_top, q_wn_kd, q_wr_kd, q_al_kd, q_wn_ln, q_wr_ln, q_al_ln, hT, hk, q_nk, e1, e2, e3, e4, h0]
  exact hP
set_option maxRecDepth 100000 in
set_option maxHeartbeats 8000000 in
theorem c_0 {d : Nat} {P : Int → qM → Prop} {M : qM} {x0 T : Int} (hT : q_top M = T) (h0 : 0 ≤ x0) (h1 : x0 < T) (hk : q_kd M x0 = 0) (hP : P 0 (q_run [(0, 14, 8, 0), (1, x0, 0, T), (0, 14, 128, 0), (1, x0, 1, T + 1)] M)) : q_WP q_Pr (d + 1) 0 [.inr (.inr x0)] M P := by
  refine q_enter (s_0_0 ?_)
  simp only [q_run, q_op] at hP
  have e1 : x0 ≠ T := by omega
  have e2 : x0 ≠ T + 1 := by omega
  have e3 : -1 ≤ T := by omega
  have e4 : -1 ≤ T + 1 := by omega
  simp [q_wn_top, q_wr_top, q_al_top, q_wn_kd, q_wr_kd, q_al_kd, q_wn_ln, q_wr_ln, q_al_ln, hT, hk, q_nk, e1, e2, e3, e4, h0]
  exact hP
def q_o78 : List qOp := [(0, 12, 240, 0), (1, 3, 0, 4), (0, 14, 30, 0), (1, 3, 1, 5), (0, 14, 30, 0), (1, 3, 2, 6), (0, 14, 30, 0), (1, 3, 3, 7), (0, 14, 30, 0), (1, 3, 4, 8), (0, 14, 30, 0), (1, 3, 5, 9), (0, 15, 30, 0), (1, 3, 6, 10), (0, 15, 30, 0), (1, 3, 7, 11), (0, 15, 17, 0), (1, 3, 8, 12), (2, 12, 0, 1), (2, 12, 1, 37), (2, 12, 2, 1369), (2, 12, 3, 50653), (2, 12, 4, 1874161), (2, 12, 5, 69343957), (2, 12, 6, 2565726409), (2, 12, 7, 94931877133), (2, 12, 8, 3512479453921), (2, 12, 9, 129961739795077), (2, 12, 10, 4808584372417849), (2, 12, 11, 177917621779460413), (2, 12, 12, 6582952005840035281), (2, 12, 13, 3761551257857134389), (2, 12, 14, -8396556048962440535), (2, 12, 15, 2922075441452077677), (2, 12, 16, -2563673108530435647)]
set_option maxRecDepth 100000 in
set_option maxHeartbeats 8000000 in
theorem c_78 {d : Nat} {P : Int → qM → Prop} {M : qM} (hT : q_top M = 4) (hk : q_kd M 3 = 9) (hP : P 0 (q_run q_o78 M)) : q_WP q_Pr (d + 1) 78 [.inr (.inr 3)] M P := by
  refine q_enter (s_78_0 ?_)
  simp only [q_o78, q_run, q_op] at hP
  simp [q_wn_top, q_wr_top, q_al_top, q_wn_kd, q_wr_kd, q_al_kd, q_wn_ln, q_wr_ln, q_al_ln, q_wn_rf, q_wr_rf, q_al_rf, q_wn_nm, q_wr_nm, q_al_nm, hT, hk, q_nk]
  refine s_78_86 ?_
  simp [q_wn_top, q_wr_top, q_al_top, q_wn_kd, q_wr_kd, q_al_kd, q_wn_ln, q_wr_ln, q_al_ln, q_wn_rf, q_wr_rf, q_al_rf, q_wn_nm, q_wr_nm, q_al_nm, hT, hk, q_nk, w32, w64]
  refine s_78_86 ?_
  simp [q_wn_top, q_wr_top, q_al_top, q_wn_kd, q_wr_kd, q_al_kd, q_wn_ln, q_wr_ln, q_al_ln, q_wn_rf, q_wr_rf, q_al_rf, q_wn_nm, q_wr_nm, q_al_nm, hT, hk, q_nk, w32, w64]
  refine s_78_86 ?_
  simp [q_wn_top, q_wr_top, q_al_top, q_wn_kd, q_wr_kd, q_al_kd, q_wn_ln, q_wr_ln, q_al_ln, q_wn_rf, q_wr_rf, q_al_rf, q_wn_nm, q_wr_nm, q_al_nm, hT, hk, q_nk, w32, w64]
  refine s_78_86 ?_
  simp [q_wn_top, q_wr_top, q_al_top, q_wn_kd, q_wr_kd, q_al_kd, q_wn_ln, q_wr_ln, q_al_ln, q_wn_rf, q_wr_rf, q_al_rf, q_wn_nm, q_wr_nm, q_al_nm, hT, hk, q_nk, w32, w64]
  refine s_78_86 ?_
  simp [q_wn_top, q_wr_top, q_al_top, q_wn_kd, q_wr_kd, q_al_kd, q_wn_ln, q_wr_ln, q_al_ln, q_wn_rf, q_wr_rf, q_al_rf, q_wn_nm, q_wr_nm, q_al_nm, hT, hk, q_nk, w32, w64]
  refine s_78_86 ?_
  simp [q_wn_top, q_wr_top, q_al_top, q_wn_kd, q_wr_kd, q_al_kd, q_wn_ln, q_wr_ln, q_al_ln, q_wn_rf, q_wr_rf, q_al_rf, q_wn_nm, q_wr_nm, q_al_nm, hT, hk, q_nk, w32, w64]
  refine s_78_86 ?_
  simp [q_wn_top, q_wr_top, q_al_top, q_wn_kd, q_wr_kd, q_al_kd, q_wn_ln, q_wr_ln, q_al_ln, q_wn_rf, q_wr_rf, q_al_rf, q_wn_nm, q_wr_nm, q_al_nm, hT, hk, q_nk, w32, w64]
  refine s_78_86 ?_
  simp [q_wn_top, q_wr_top, q_al_top, q_wn_kd, q_wr_kd, q_al_kd, q_wn_ln, q_wr_ln, q_al_ln, q_wn_rf, q_wr_rf, q_al_rf, q_wn_nm, q_wr_nm, q_al_nm, hT, hk, q_nk, w32, w64]
  refine s_78_86 ?_
  simp [q_wn_top, q_wr_top, q_al_top, q_wn_kd, q_wr_kd, q_al_kd, q_wn_ln, q_wr_ln, q_al_ln, q_wn_rf, q_wr_rf, q_al_rf, q_wn_nm, q_wr_nm, q_al_nm, hT, hk, q_nk, w32, w64]
  refine s_78_86 ?_
  simp [q_wn_top, q_wr_top, q_al_top, q_wn_kd, q_wr_kd, q_al_kd, q_wn_ln, q_wr_ln, q_al_ln, q_wn_rf, q_wr_rf, q_al_rf, q_wn_nm, q_wr_nm, q_al_nm, hT, hk, q_nk, w32, w64]
  refine s_78_86 ?_
  simp [q_wn_top, q_wr_top, q_al_top, q_wn_kd, q_wr_kd, q_al_kd, q_wn_ln, q_wr_ln, q_al_ln, q_wn_rf, q_wr_rf, q_al_rf, q_wn_nm, q_wr_nm, q_al_nm, hT, hk, q_nk, w32, w64]
  refine s_78_86 ?_
  simp [q_wn_top, q_wr_top, q_al_top, q_wn_kd, q_wr_kd, q_al_kd, q_wn_ln, q_wr_ln, q_al_ln, q_wn_rf, q_wr_rf, q_al_rf, q_wn_nm, q_wr_nm, q_al_nm, hT, hk, q_nk, w32, w64]
  refine s_78_86 ?_
  simp [q_wn_top, q_wr_top, q_al_top, q_wn_kd, q_wr_kd, q_al_kd, q_wn_ln, q_wr_ln, q_al_ln, q_wn_rf, q_wr_rf, q_al_rf, q_wn_nm, q_wr_nm, q_al_nm, hT, hk, q_nk, w32, w64]
  refine s_78_86 ?_
  simp [q_wn_top, q_wr_top, q_al_top, q_wn_kd, q_wr_kd, q_al_kd, q_wn_ln, q_wr_ln, q_al_ln, q_wn_rf, q_wr_rf, q_al_rf, q_wn_nm, q_wr_nm, q_al_nm, hT, hk, q_nk, w32, w64]
  refine s_78_86 ?_
  simp [q_wn_top, q_wr_top, q_al_top, q_wn_kd, q_wr_kd, q_al_kd, q_wn_ln, q_wr_ln, q_al_ln, q_wn_rf, q_wr_rf, q_al_rf, q_wn_nm, q_wr_nm, q_al_nm, hT, hk, q_nk, w32, w64]
  refine s_78_86 ?_
  simp [q_wn_top, q_wr_top, q_al_top, q_wn_kd, q_wr_kd, q_al_kd, q_wn_ln, q_wr_ln, q_al_ln, q_wn_rf, q_wr_rf, q_al_rf, q_wn_nm, q_wr_nm, q_al_nm, hT, hk, q_nk, w32, w64]
  refine s_78_86 ?_
  simp [q_wn_top, q_wr_top, q_al_top, q_wn_kd, q_wr_kd, q_al_kd, q_wn_ln, q_wr_ln, q_al_ln, q_wn_rf, q_wr_rf, q_al_rf, q_wn_nm, q_wr_nm, q_al_nm, hT, hk, q_nk, w32, w64]
  exact hP
def q_o33 : List qOp := [(0, 14, 20, 0), (1, 21, 0, 22), (0, 19, 20, 0), (1, 21, 1, 23), (0, 6, 2, 0), (0, 12, 100, 0), (1, 24, 0, 25), (1, 23, 0, 24), (0, 6, 2, 0), (0, 12, 100, 0), (1, 26, 0, 27), (1, 23, 1, 26), (0, 6, 2, 0), (0, 12, 100, 0), (1, 28, 0, 29), (1, 23, 2, 28), (0, 6, 2, 0), (0, 12, 100, 0), (1, 30, 0, 31), (1, 23, 3, 30), (0, 6, 2, 0), (0, 12, 100, 0), (1, 32, 0, 33), (1, 23, 4, 32), (0, 6, 2, 0), (0, 12, 100, 0), (1, 34, 0, 35), (1, 23, 5, 34), (0, 6, 2, 0), (0, 12, 100, 0), (1, 36, 0, 37), (1, 23, 6, 36), (0, 6, 2, 0), (0, 12, 100, 0), (1, 38, 0, 39), (1, 23, 7, 38), (0, 6, 2, 0), (0, 12, 100, 0), (1, 40, 0, 41), (1, 23, 8, 40), (0, 6, 2, 0), (0, 12, 100, 0), (1, 42, 0, 43), (1, 23, 9, 42), (0, 6, 2, 0), (0, 12, 100, 0), (1, 44, 0, 45), (1, 23, 10, 44), (0, 6, 2, 0), (0, 12, 100, 0), (1, 46, 0, 47), (1, 23, 11, 46), (0, 6, 2, 0), (0, 12, 100, 0), (1, 48, 0, 49), (1, 23, 12, 48), (0, 6, 2, 0), (0, 12, 100, 0), (1, 50, 0, 51), (1, 23, 13, 50), (0, 6, 2, 0), (0, 12, 100, 0), (1, 52, 0, 53), (1, 23, 14, 52), (0, 6, 2, 0), (0, 12, 100, 0), (1, 54, 0, 55), (1, 23, 15, 54), (0, 6, 2, 0), (0, 12, 100, 0), (1, 56, 0, 57), (1, 23, 16, 56), (0, 6, 2, 0), (0, 12, 100, 0), (1, 58, 0, 59), (1, 23, 17, 58), (0, 6, 2, 0), (0, 12, 100, 0), (1, 60, 0, 61), (1, 23, 18, 60), (0, 6, 2, 0), (0, 12, 100, 0), (1, 62, 0, 63), (1, 23, 19, 62)]
set_option maxRecDepth 100000 in
set_option maxHeartbeats 8000000 in
theorem c_33 {d : Nat} {P : Int → qM → Prop} {M : qM} (hT : q_top M = 22) (hk : q_kd M 21 = 2) (hP : P 0 (q_run q_o33 M)) : q_WP q_Pr (d + 2) 33 [.inr (.inr 21)] M P := by
  refine q_enter (s_33_0 ?_)
  simp only [q_o33, q_run, q_op] at hP
  simp [q_wn_top, q_wr_top, q_al_top, q_wn_kd, q_wr_kd, q_al_kd, q_wn_ln, q_wr_ln, q_al_ln, q_wn_rf, q_wr_rf, q_al_rf, q_wn_nm, q_wr_nm, q_al_nm, hT, hk, q_nk, q_ak]
  refine s_33_23 ?_
  simp [q_wn_top, q_wr_top, q_al_top, q_wn_kd, q_wr_kd, q_al_kd, q_wn_ln, q_wr_ln, q_al_ln, q_wn_rf, q_wr_rf, q_al_rf, q_wn_nm, q_wr_nm, q_al_nm, hT, hk, q_nk, q_ak, q_ns]
  refine c_57 (T := 25) (by simp [q_wn_top, q_wr_top, q_al_top, q_wn_kd, q_wr_kd, q_al_kd, q_wn_ln, q_wr_ln, q_al_ln, q_wn_rf, q_wr_rf, q_al_rf, q_wn_nm, q_wr_nm, q_al_nm, hT]) (by decide) (by decide) (by simp [q_wn_top, q_wr_top, q_al_top, q_wn_kd, q_wr_kd, q_al_kd, q_wn_ln, q_wr_ln, q_al_ln, q_wn_rf, q_wr_rf, q_al_rf, q_wn_nm, q_wr_nm, q_al_nm, hT]) ?_
  simp [q_wn_top, q_wr_top, q_al_top, q_wn_kd, q_wr_kd, q_al_kd, q_wn_ln, q_wr_ln, q_al_ln, q_wn_rf, q_wr_rf, q_al_rf, q_wn_nm, q_wr_nm, q_al_nm, hT, hk, q_nk, q_ak, q_ns, q_run, q_op, w32]
  refine s_33_23 ?_
  simp [q_wn_top, q_wr_top, q_al_top, q_wn_kd, q_wr_kd, q_al_kd, q_wn_ln, q_wr_ln, q_al_ln, q_wn_rf, q_wr_rf, q_al_rf, q_wn_nm, q_wr_nm, q_al_nm, hT, hk, q_nk, q_ak, q_ns]
  refine c_57 (T := 27) (by simp [q_wn_top, q_wr_top, q_al_top, q_wn_kd, q_wr_kd, q_al_kd, q_wn_ln, q_wr_ln, q_al_ln, q_wn_rf, q_wr_rf, q_al_rf, q_wn_nm, q_wr_nm, q_al_nm, hT]) (by decide) (by decide) (by simp [q_wn_top, q_wr_top, q_al_top, q_wn_kd, q_wr_kd, q_al_kd, q_wn_ln, q_wr_ln, q_al_ln, q_wn_rf, q_wr_rf, q_al_rf, q_wn_nm, q_wr_nm, q_al_nm, hT]) ?_
  simp [q_wn_top, q_wr_top, q_al_top, q_wn_kd, q_wr_kd, q_al_kd, q_wn_ln, q_wr_ln, q_al_ln, q_wn_rf, q_wr_rf, q_al_rf, q_wn_nm, q_wr_nm, q_al_nm, hT, hk, q_nk, q_ak, q_ns, q_run, q_op, w32]
  refine s_33_23 ?_
  simp [q_wn_top, q_wr_top, q_al_top, q_wn_kd, q_wr_kd, q_al_kd, q_wn_ln, q_wr_ln, q_al_ln, q_wn_rf, q_wr_rf, q_al_rf, q_wn_nm, q_wr_nm, q_al_nm, hT, hk, q_nk, q_ak, q_ns]
  refine c_57 (T := 29) (by simp [q_wn_top, q_wr_top, q_al_top, q_wn_kd, q_wr_kd, q_al_kd, q_wn_ln, q_wr_ln, q_al_ln, q_wn_rf, q_wr_rf, q_al_rf, q_wn_nm, q_wr_nm, q_al_nm, hT]) (by decide) (by decide) (by simp [q_wn_top, q_wr_top, q_al_top, q_wn_kd, q_wr_kd, q_al_kd, q_wn_ln, q_wr_ln, q_al_ln, q_wn_rf, q_wr_rf, q_al_rf, q_wn_nm, q_wr_nm, q_al_nm, hT]) ?_
  simp [q_wn_top, q_wr_top, q_al_top, q_wn_kd, q_wr_kd, q_al_kd, q_wn_ln, q_wr_ln, q_al_ln, q_wn_rf, q_wr_rf, q_al_rf, q_wn_nm, q_wr_nm, q_al_nm, hT, hk, q_nk, q_ak, q_ns, q_run, q_op, w32]
  refine s_33_23 ?_
  simp [q_wn_top, q_wr_top, q_al_top, q_wn_kd, q_wr_kd, q_al_kd, q_wn_ln, q_wr_ln, q_al_ln, q_wn_rf, q_wr_rf, q_al_rf, q_wn_nm, q_wr_nm, q_al_nm, hT, hk, q_nk, q_ak, q_ns]
  refine c_57 (T := 31) (by simp [q_wn_top, q_wr_top, q_al_top, q_wn_kd, q_wr_kd, q_al_kd, q_wn_ln, q_wr_ln, q_al_ln, q_wn_rf, q_wr_rf, q_al_rf, q_wn_nm, q_wr_nm, q_al_nm, hT]) (by decide) (by decide) (by simp [q_wn_top, q_wr_top, q_al_top, q_wn_kd, q_wr_kd, q_al_kd, q_wn_ln, q_wr_ln, q_al_ln, q_wn_rf, q_wr_rf, q_al_rf, q_wn_nm, q_wr_nm, q_al_nm, hT]) ?_
  simp [q_wn_top, q_wr_top, q_al_top, q_wn_kd, q_wr_kd, q_al_kd, q_wn_ln, q_wr_ln, q_al_ln, q_wn_rf, q_wr_rf, q_al_rf, q_wn_nm, q_wr_nm, q_al_nm, hT, hk, q_nk, q_ak, q_ns, q_run, q_op, w32]
  refine s_33_23 ?_
  simp [q_wn_top, q_wr_top, q_al_top, q_wn_kd, q_wr_kd, q_al_kd, q_wn_ln, q_wr_ln, q_al_ln, q_wn_rf, q_wr_rf, q_al_rf, q_wn_nm, q_wr_nm, q_al_nm, hT, hk, q_nk, q_ak, q_ns]
  refine c_57 (T := 33) (by simp [q_wn_top, q_wr_top, q_al_top, q_wn_kd, q_wr_kd, q_al_kd, q_wn_ln, q_wr_ln, q_al_ln, q_wn_rf, q_wr_rf, q_al_rf, q_wn_nm, q_wr_nm, q_al_nm, hT]) (by decide) (by decide) (by simp [q_wn_top, q_wr_top, q_al_top, q_wn_kd, q_wr_kd, q_al_kd, q_wn_ln, q_wr_ln, q_al_ln, q_wn_rf, q_wr_rf, q_al_rf, q_wn_nm, q_wr_nm, q_al_nm, hT]) ?_
  simp [q_wn_top, q_wr_top, q_al_top, q_wn_kd, q_wr_kd, q_al_kd, q_wn_ln, q_wr_ln, q_al_ln, q_wn_rf, q_wr_rf, q_al_rf, q_wn_nm, q_wr_nm, q_al_nm, hT, hk, q_nk, q_ak, q_ns, q_run, q_op, w32]
  refine s_33_23 ?_
  simp [q_wn_top, q_wr_top, q_al_top, q_wn_kd, q_wr_kd, q_al_kd, q_wn_ln, q_wr_ln, q_al_ln, q_wn_rf, q_wr_rf, q_al_rf, q_wn_nm, q_wr_nm, q_al_nm, hT, hk, q_nk, q_ak, q_ns]
  refine c_57 (T := 35) (by simp [q_wn_top, q_wr_top, q_al_top, q_wn_kd, q_wr_kd, q_al_kd, q_wn_ln, q_wr_ln, q_al_ln, q_wn_rf, q_wr_rf, q_al_rf, q_wn_nm, q_wr_nm, q_al_nm, hT]) (by decide) (by decide) (by simp [q_wn_top, q_wr_top, q_al_top, q_wn_kd, q_wr_kd, q_al_kd, q_wn_ln, q_wr_ln, q_al_ln, q_wn_rf, q_wr_rf, q_al_rf, q_wn_nm, q_wr_nm, q_al_nm, hT]) ?_
  simp [q_wn_top, q_wr_top, q_al_top, q_wn_kd, q_wr_kd, q_al_kd, q_wn_ln, q_wr_ln, q_al_ln, q_wn_rf, q_wr_rf, q_al_rf, q_wn_nm, q_wr_nm, q_al_nm, hT, hk, q_nk, q_ak, q_ns, q_run, q_op, w32]
  refine s_33_23 ?_
  simp [q_wn_top, q_wr_top, q_al_top, q_wn_kd, q_wr_kd, q_al_kd, q_wn_ln, q_wr_ln, q_al_ln, q_wn_rf, q_wr_rf, q_al_rf, q_wn_nm, q_wr_nm, q_al_nm, hT, hk, q_nk, q_ak, q_ns]
  refine c_57 (T := 37) (by simp [q_wn_top, q_wr_top, q_al_top, q_wn_kd, q_wr_kd, q_al_kd, q_wn_ln, q_wr_ln, q_al_ln, q_wn_rf, q_wr_rf, q_al_rf, q_wn_nm, q_wr_nm, q_al_nm, hT]) (by decide) (by decide) (by simp [q_wn_top, q_wr_top, q_al_top, q_wn_kd, q_wr_kd, q_al_kd, q_wn_ln, q_wr_ln, q_al_ln, q_wn_rf, q_wr_rf, q_al_rf, q_wn_nm, q_wr_nm, q_al_nm, hT]) ?_
  simp [q_wn_top, q_wr_top, q_al_top, q_wn_kd, q_wr_kd, q_al_kd, q_wn_ln, q_wr_ln, q_al_ln, q_wn_rf, q_wr_rf, q_al_rf, q_wn_nm, q_wr_nm, q_al_nm, hT, hk, q_nk, q_ak, q_ns, q_run, q_op, w32]
  refine s_33_23 ?_
  simp [q_wn_top, q_wr_top, q_al_top, q_wn_kd, q_wr_kd, q_al_kd, q_wn_ln, q_wr_ln, q_al_ln, q_wn_rf, q_wr_rf, q_al_rf, q_wn_nm, q_wr_nm, q_al_nm, hT, hk, q_nk, q_ak, q_ns]
  refine c_57 (T := 39) (by simp [q_wn_top, q_wr_top, q_al_top, q_wn_kd, q_wr_kd, q_al_kd, q_wn_ln, q_wr_ln, q_al_ln, q_wn_rf, q_wr_rf, q_al_rf, q_wn_nm, q_wr_nm, q_al_nm, hT]) (by decide) (by decide) (by simp [q_wn_top, q_wr_top, q_al_top, q_wn_kd, q_wr_kd, q_al_kd, q_wn_ln, q_wr_ln, q_al_ln, q_wn_rf, q_wr_rf, q_al_rf, q_wn_nm, q_wr_nm, q_al_nm, hT]) ?_
  simp [q_wn_top, q_wr_top, q_al_top, q_wn_kd, q_wr_kd, q_al_kd, q_wn_ln, q_wr_ln, q_al_ln, q_wn_rf, q_wr_rf, q_al_rf, q_wn_nm, q_wr_nm, q_al_nm, hT, hk, q_nk, q_ak, q_ns, q_run, q_op, w32]
  refine s_33_23 ?_
  simp [q_wn_top, q_wr_top, q_al_top, q_wn_kd, q_wr_kd, q_al_kd, q_wn_ln, q_wr_ln, q_al_ln, q_wn_rf, q_wr_rf, q_al_rf, q_wn_nm, q_wr_nm, q_al_nm, hT, hk, q_nk, q_ak, q_ns]
  refine c_57 (T := 41) (by simp [q_wn_top, q_wr_top, q_al_top, q_wn_kd, q_wr_kd, q_al_kd, q_wn_ln, q_wr_ln, q_al_ln, q_wn_rf, q_wr_rf, q_al_rf, q_wn_nm, q_wr_nm, q_al_nm, hT]) (by decide) (by decide) (by simp [q_wn_top, q_wr_top, q_al_top, q_wn_kd, q_wr_kd, q_al_kd, q_wn_ln, q_wr_ln, q_al_ln, q_wn_rf, q_wr_rf, q_al_rf, q_wn_nm, q_wr_nm, q_al_nm, hT]) ?_
  simp [q_wn_top, q_wr_top, q_al_top, q_wn_kd, q_wr_kd, q_al_kd, q_wn_ln, q_wr_ln, q_al_ln, q_wn_rf, q_wr_rf, q_al_rf, q_wn_nm, q_wr_nm, q_al_nm, hT, hk, q_nk, q_ak, q_ns, q_run, q_op, w32]
  refine s_33_23 ?_
  simp [q_wn_top, q_wr_top, q_al_top, q_wn_kd, q_wr_kd, q_al_kd, q_wn_ln, q_wr_ln, q_al_ln, q_wn_rf, q_wr_rf, q_al_rf, q_wn_nm, q_wr_nm, q_al_nm, hT, hk, q_nk, q_ak, q_ns]
  refine c_57 (T := 43) (by simp [q_wn_top, q_wr_top, q_al_top, q_wn_kd, q_wr_kd, q_al_kd, q_wn_ln, q_wr_ln, q_al_ln, q_wn_rf, q_wr_rf, q_al_rf, q_wn_nm, q_wr_nm, q_al_nm, hT]) (by decide) (by decide) (by simp [q_wn_top, q_wr_top, q_al_top, q_wn_kd, q_wr_kd, q_al_kd, q_wn_ln, q_wr_ln, q_al_ln, q_wn_rf, q_wr_rf, q_al_rf, q_wn_nm, q_wr_nm, q_al_nm, hT]) ?_
  simp [q_wn_top, q_wr_top, q_al_top, q_wn_kd, q_wr_kd, q_al_kd, q_wn_ln, q_wr_ln, q_al_ln, q_wn_rf, q_wr_rf, q_al_rf, q_wn_nm, q_wr_nm, q_al_nm, hT, hk, q_nk, q_ak, q_ns, q_run, q_op, w32]
  refine s_33_23 ?_
  simp [q_wn_top, q_wr_top, q_al_top, q_wn_kd, q_wr_kd, q_al_kd, q_wn_ln, q_wr_ln, q_al_ln, q_wn_rf, q_wr_rf, q_al_rf, q_wn_nm, q_wr_nm, q_al_nm, hT, hk, q_nk, q_ak, q_ns]
  refine c_57 (T := 45) (by simp [q_wn_top, q_wr_top, q_al_top, q_wn_kd, q_wr_kd, q_al_kd, q_wn_ln, q_wr_ln, q_al_ln, q_wn_rf, q_wr_rf, q_al_rf, q_wn_nm, q_wr_nm, q_al_nm, hT]) (by decide) (by decide) (by simp [q_wn_top, q_wr_top, q_al_top, q_wn_kd, q_wr_kd, q_al_kd, q_wn_ln, q_wr_ln, q_al_ln, q_wn_rf, q_wr_rf, q_al_rf, q_wn_nm, q_wr_nm, q_al_nm, hT]) ?_
  simp [q_wn_top, q_wr_top, q_al_top, q_wn_kd, q_wr_kd, q_al_kd, q_wn_ln, q_wr_ln, q_al_ln, q_wn_rf, q_wr_rf, q_al_rf, q_wn_nm, q_wr_nm, q_al_nm, hT, hk, q_nk, q_ak, q_ns, q_run, q_op, w32]
  refine s_33_23 ?_
  simp [q_wn_top, q_wr_top, q_al_top, q_wn_kd, q_wr_kd, q_al_kd, q_wn_ln, q_wr_ln, q_al_ln, q_wn_rf, q_wr_rf, q_al_rf, q_wn_nm, q_wr_nm, q_al_nm, hT, hk, q_nk, q_ak, q_ns]
  refine c_57 (T := 47) (by simp [q_wn_top, q_wr_top, q_al_top, q_wn_kd, q_wr_kd, q_al_kd, q_wn_ln, q_wr_ln, q_al_ln, q_wn_rf, q_wr_rf, q_al_rf, q_wn_nm, q_wr_nm, q_al_nm, hT]) (by decide) (by decide) (by simp [q_wn_top, q_wr_top, q_al_top, q_wn_kd, q_wr_kd, q_al_kd, q_wn_ln, q_wr_ln, q_al_ln, q_wn_rf, q_wr_rf, q_al_rf, q_wn_nm, q_wr_nm, q_al_nm, hT]) ?_
  simp [q_wn_top, q_wr_top, q_al_top, q_wn_kd, q_wr_kd, q_al_kd, q_wn_ln, q_wr_ln, q_al_ln, q_wn_rf, q_wr_rf, q_al_rf, q_wn_nm, q_wr_nm, q_al_nm, hT, hk, q_nk, q_ak, q_ns, q_run, q_op, w32]
  refine s_33_23 ?_
  simp [q_wn_top, q_wr_top, q_al_top, q_wn_kd, q_wr_kd, q_al_kd, q_wn_ln, q_wr_ln, q_al_ln, q_wn_rf, q_wr_rf, q_al_rf, q_wn_nm, q_wr_nm, q_al_nm, hT, hk, q_nk, q_ak, q_ns]
  refine c_57 (T := 49) (by simp [q_wn_top, q_wr_top, q_al_top, q_wn_kd, q_wr_kd, q_al_kd, q_wn_ln, q_wr_ln, q_al_ln, q_wn_rf, q_wr_rf, q_al_rf, q_wn_nm, q_wr_nm, q_al_nm, hT]) (by decide) (by decide) (by simp [q_wn_top, q_wr_top, q_al_top, q_wn_kd, q_wr_kd, q_al_kd, q_wn_ln, q_wr_ln, q_al_ln, q_wn_rf, q_wr_rf, q_al_rf, q_wn_nm, q_wr_nm, q_al_nm, hT]) ?_
  simp [q_wn_top, q_wr_top, q_al_top, q_wn_kd, q_wr_kd, q_al_kd, q_wn_ln, q_wr_ln, q_al_ln, q_wn_rf, q_wr_rf, q_al_rf, q_wn_nm, q_wr_nm, q_al_nm, hT, hk, q_nk, q_ak, q_ns, q_run, q_op, w32]
  refine s_33_23 ?_
  simp [q_wn_top, q_wr_top, q_al_top, q_wn_kd, q_wr_kd, q_al_kd, q_wn_ln, q_wr_ln, q_al_ln, q_wn_rf, q_wr_rf, q_al_rf, q_wn_nm, q_wr_nm, q_al_nm, hT, hk, q_nk, q_ak, q_ns]
  refine c_57 (T := 51) (by simp [q_wn_top, q_wr_top, q_al_top, q_wn_kd, q_wr_kd, q_al_kd, q_wn_ln, q_wr_ln, q_al_ln, q_wn_rf, q_wr_rf, q_al_rf, q_wn_nm, q_wr_nm, q_al_nm, hT]) (by decide) (by decide) (by simp [q_wn_top, q_wr_top, q_al_top, q_wn_kd, q_wr_kd, q_al_kd, q_wn_ln, q_wr_ln, q_al_ln, q_wn_rf, q_wr_rf, q_al_rf, q_wn_nm, q_wr_nm, q_al_nm, hT]) ?_
  simp [q_wn_top, q_wr_top, q_al_top, q_wn_kd, q_wr_kd, q_al_kd, q_wn_ln, q_wr_ln, q_al_ln, q_wn_rf, q_wr_rf, q_al_rf, q_wn_nm, q_wr_nm, q_al_nm, hT, hk, q_nk, q_ak, q_ns, q_run, q_op, w32]
  refine s_33_23 ?_
  simp [q_wn_top, q_wr_top, q_al_top, q_wn_kd, q_wr_kd, q_al_kd, q_wn_ln, q_wr_ln, q_al_ln, q_wn_rf, q_wr_rf, q_al_rf, q_wn_nm, q_wr_nm, q_al_nm, hT, hk, q_nk, q_ak, q_ns]
  refine c_57 (T := 53) (by simp [q_wn_top, q_wr_top, q_al_top, q_wn_kd, q_wr_kd, q_al_kd, q_wn_ln, q_wr_ln, q_al_ln, q_wn_rf, q_wr_rf, q_al_rf, q_wn_nm, q_wr_nm, q_al_nm, hT]) (by decide) (by decide) (by simp [q_wn_top, q_wr_top, q_al_top, q_wn_kd, q_wr_kd, q_al_kd, q_wn_ln, q_wr_ln, q_al_ln, q_wn_rf, q_wr_rf, q_al_rf, q_wn_nm, q_wr_nm, q_al_nm, hT]) ?_
  simp [q_wn_top, q_wr_top, q_al_top, q_wn_kd, q_wr_kd, q_al_kd, q_wn_ln, q_wr_ln, q_al_ln, q_wn_rf, q_wr_rf, q_al_rf, q_wn_nm, q_wr_nm, q_al_nm, hT, hk, q_nk, q_ak, q_ns, q_run, q_op, w32]
  refine s_33_23 ?_
  simp [q_wn_top, q_wr_top, q_al_top, q_wn_kd, q_wr_kd, q_al_kd, q_wn_ln, q_wr_ln, q_al_ln, q_wn_rf, q_wr_rf, q_al_rf, q_wn_nm, q_wr_nm, q_al_nm, hT, hk, q_nk, q_ak, q_ns]
  refine c_57 (T := 55) (by simp [q_wn_top, q_wr_top, q_al_top, q_wn_kd, q_wr_kd, q_al_kd, q_wn_ln, q_wr_ln, q_al_ln, q_wn_rf, q_wr_rf, q_al_rf, q_wn_nm, q_wr_nm, q_al_nm, hT]) (by decide) (by decide) (by simp [q_wn_top, q_wr_top, q_al_top, q_wn_kd, q_wr_kd, q_al_kd, q_wn_ln, q_wr_ln, q_al_ln, q_wn_rf, q_wr_rf, q_al_rf, q_wn_nm, q_wr_nm, q_al_nm, hT]) ?_
  simp [q_wn_top, q_wr_top, q_al_top, q_wn_kd, q_wr_kd, q_al_kd, q_wn_ln, q_wr_ln, q_al_ln, q_wn_rf, q_wr_rf, q_al_rf, q_wn_nm, q_wr_nm, q_al_nm, hT, hk, q_nk, q_ak, q_ns, q_run, q_op, w32]
  refine s_33_23 ?_
  simp [q_wn_top, q_wr_top, q_al_top, q_wn_kd, q_wr_kd, q_al_kd, q_wn_ln, q_wr_ln, q_al_ln, q_wn_rf, q_wr_rf, q_al_rf, q_wn_nm, q_wr_nm, q_al_nm, hT, hk, q_nk, q_ak, q_ns]
  refine c_57 (T := 57) (by simp [q_wn_top, q_wr_top, q_al_top, q_wn_kd, q_wr_kd, q_al_kd, q_wn_ln, q_wr_ln, q_al_ln, q_wn_rf, q_wr_rf, q_al_rf, q_wn_nm, q_wr_nm, q_al_nm, hT]) (by decide) (by decide) (by simp [q_wn_top, q_wr_top, q_al_top, q_wn_kd, q_wr_kd, q_al_kd, q_wn_ln, q_wr_ln, q_al_ln, q_wn_rf, q_wr_rf, q_al_rf, q_wn_nm, q_wr_nm, q_al_nm, hT]) ?_
  simp [q_wn_top, q_wr_top, q_al_top, q_wn_kd, q_wr_kd, q_al_kd, q_wn_ln, q_wr_ln, q_al_ln, q_wn_rf, q_wr_rf, q_al_rf, q_wn_nm, q_wr_nm, q_al_nm, hT, hk, q_nk, q_ak, q_ns, q_run, q_op, w32]
  refine s_33_23 ?_
  simp [q_wn_top, q_wr_top, q_al_top, q_wn_kd, q_wr_kd, q_al_kd, q_wn_ln, q_wr_ln, q_al_ln, q_wn_rf, q_wr_rf, q_al_rf, q_wn_nm, q_wr_nm, q_al_nm, hT, hk, q_nk, q_ak, q_ns]
  refine c_57 (T := 59) (by simp [q_wn_top, q_wr_top, q_al_top, q_wn_kd, q_wr_kd, q_al_kd, q_wn_ln, q_wr_ln, q_al_ln, q_wn_rf, q_wr_rf, q_al_rf, q_wn_nm, q_wr_nm, q_al_nm, hT]) (by decide) (by decide) (by simp [q_wn_top, q_wr_top, q_al_top, q_wn_kd, q_wr_kd, q_al_kd, q_wn_ln, q_wr_ln, q_al_ln, q_wn_rf, q_wr_rf, q_al_rf, q_wn_nm, q_wr_nm, q_al_nm, hT]) ?_
  simp [q_wn_top, q_wr_top, q_al_top, q_wn_kd, q_wr_kd, q_al_kd, q_wn_ln, q_wr_ln, q_al_ln, q_wn_rf, q_wr_rf, q_al_rf, q_wn_nm, q_wr_nm, q_al_nm, hT, hk, q_nk, q_ak, q_ns, q_run, q_op, w32]
  refine s_33_23 ?_
  simp [q_wn_top, q_wr_top, q_al_top, q_wn_kd, q_wr_kd, q_al_kd, q_wn_ln, q_wr_ln, q_al_ln, q_wn_rf, q_wr_rf, q_al_rf, q_wn_nm, q_wr_nm, q_al_nm, hT, hk, q_nk, q_ak, q_ns]
  refine c_57 (T := 61) (by simp [q_wn_top, q_wr_top, q_al_top, q_wn_kd, q_wr_kd, q_al_kd, q_wn_ln, q_wr_ln, q_al_ln, q_wn_rf, q_wr_rf, q_al_rf, q_wn_nm, q_wr_nm, q_al_nm, hT]) (by decide) (by decide) (by simp [q_wn_top, q_wr_top, q_al_top, q_wn_kd, q_wr_kd, q_al_kd, q_wn_ln, q_wr_ln, q_al_ln, q_wn_rf, q_wr_rf, q_al_rf, q_wn_nm, q_wr_nm, q_al_nm, hT]) ?_
  simp [q_wn_top, q_wr_top, q_al_top, q_wn_kd, q_wr_kd, q_al_kd, q_wn_ln, q_wr_ln, q_al_ln, q_wn_rf, q_wr_rf, q_al_rf, q_wn_nm, q_wr_nm, q_al_nm, hT, hk, q_nk, q_ak, q_ns, q_run, q_op, w32]
  refine s_33_23 ?_
  simp [q_wn_top, q_wr_top, q_al_top, q_wn_kd, q_wr_kd, q_al_kd, q_wn_ln, q_wr_ln, q_al_ln, q_wn_rf, q_wr_rf, q_al_rf, q_wn_nm, q_wr_nm, q_al_nm, hT, hk, q_nk, q_ak, q_ns]
  refine c_57 (T := 63) (by simp [q_wn_top, q_wr_top, q_al_top, q_wn_kd, q_wr_kd, q_al_kd, q_wn_ln, q_wr_ln, q_al_ln, q_wn_rf, q_wr_rf, q_al_rf, q_wn_nm, q_wr_nm, q_al_nm, hT]) (by decide) (by decide) (by simp [q_wn_top, q_wr_top, q_al_top, q_wn_kd, q_wr_kd, q_al_kd, q_wn_ln, q_wr_ln, q_al_ln, q_wn_rf, q_wr_rf, q_al_rf, q_wn_nm, q_wr_nm, q_al_nm, hT]) ?_
  simp [q_wn_top, q_wr_top, q_al_top, q_wn_kd, q_wr_kd, q_al_kd, q_wn_ln, q_wr_ln, q_al_ln, q_wn_rf, q_wr_rf, q_al_rf, q_wn_nm, q_wr_nm, q_al_nm, hT, hk, q_nk, q_ak, q_ns, q_run, q_op, w32]
  refine s_33_23 ?_
  simp
  exact hP
def q_o96 : List qOp := [(0, 7, 2, 0), (0, 12, 2100, 0), (1, 1, 0, 2), (1, 0, 0, 1), (0, 9, 10, 0), (0, 12, 240, 0), (1, 3, 0, 4), (0, 14, 30, 0), (1, 3, 1, 5), (0, 14, 30, 0), (1, 3, 2, 6), (0, 14, 30, 0), (1, 3, 3, 7), (0, 14, 30, 0), (1, 3, 4, 8), (0, 14, 30, 0), (1, 3, 5, 9), (0, 15, 30, 0), (1, 3, 6, 10), (0, 15, 30, 0), (1, 3, 7, 11), (0, 15, 17, 0), (1, 3, 8, 12), (2, 12, 0, 1), (2, 12, 1, 37), (2, 12, 2, 1369), (2, 12, 3, 50653), (2, 12, 4, 1874161), (2, 12, 5, 69343957), (2, 12, 6, 2565726409), (2, 12, 7, 94931877133), (2, 12, 8, 3512479453921), (2, 12, 9, 129961739795077), (2, 12, 10, 4808584372417849), (2, 12, 11, 177917621779460413), (2, 12, 12, 6582952005840035281), (2, 12, 13, 3761551257857134389), (2, 12, 14, -8396556048962440535), (2, 12, 15, 2922075441452077677), (2, 12, 16, -2563673108530435647), (1, 0, 1, 3), (0, 17, 12, 0), (1, 0, 2, 13), (0, 18, 5, 0), (1, 0, 4, 14), (0, 0, 2, 0), (0, 14, 8, 0), (1, 15, 0, 16), (0, 14, 128, 0), (1, 15, 1, 17), (1, 0, 5, 15), (0, 14, 1024, 0), (1, 0, 6, 18), (2, 0, 8, -1), (0, 6, 2, 0), (0, 12, 100, 0), (1, 19, 0, 20), (1, 0, 9, 19), (0, 2, 3, 0), (0, 14, 20, 0), (1, 21, 0, 22), (0, 19, 20, 0), (1, 21, 1, 23), (0, 6, 2, 0), (0, 12, 100, 0), (1, 24, 0, 25), (1, 23, 0, 24), (0, 6, 2, 0), (0, 12, 100, 0), (1, 26, 0, 27), (1, 23, 1, 26), (0, 6, 2, 0), (0, 12, 100, 0), (1, 28, 0, 29), (1, 23, 2, 28), (0, 6, 2, 0), (0, 12, 100, 0), (1, 30, 0, 31), (1, 23, 3, 30), (0, 6, 2, 0), (0, 12, 100, 0), (1, 32, 0, 33), (1, 23, 4, 32), (0, 6, 2, 0), (0, 12, 100, 0), (1, 34, 0, 35), (1, 23, 5, 34), (0, 6, 2, 0), (0, 12, 100, 0), (1, 36, 0, 37), (1, 23, 6, 36), (0, 6, 2, 0), (0, 12, 100, 0), (1, 38, 0, 39), (1, 23, 7, 38), (0, 6, 2, 0), (0, 12, 100, 0), (1, 40, 0, 41), (1, 23, 8, 40), (0, 6, 2, 0), (0, 12, 100, 0), (1, 42, 0, 43), (1, 23, 9, 42), (0, 6, 2, 0), (0, 12, 100, 0), (1, 44, 0, 45), (1, 23, 10, 44), (0, 6, 2, 0), (0, 12, 100, 0), (1, 46, 0, 47), (1, 23, 11, 46), (0, 6, 2, 0), (0, 12, 100, 0), (1, 48, 0, 49), (1, 23, 12, 48), (0, 6, 2, 0), (0, 12, 100, 0), (1, 50, 0, 51), (1, 23, 13, 50), (0, 6, 2, 0), (0, 12, 100, 0), (1, 52, 0, 53), (1, 23, 14, 52), (0, 6, 2, 0), (0, 12, 100, 0), (1, 54, 0, 55), (1, 23, 15, 54), (0, 6, 2, 0), (0, 12, 100, 0), (1, 56, 0, 57), (1, 23, 16, 56), (0, 6, 2, 0), (0, 12, 100, 0), (1, 58, 0, 59), (1, 23, 17, 58), (0, 6, 2, 0), (0, 12, 100, 0), (1, 60, 0, 61), (1, 23, 18, 60), (0, 6, 2, 0), (0, 12, 100, 0), (1, 62, 0, 63), (1, 23, 19, 62), (1, 0, 10, 21), (0, 3, 2, 0), (0, 12, 2042, 0), (1, 64, 0, 65), (1, 0, 11, 64)]
set_option maxRecDepth 100000 in
set_option maxHeartbeats 8000000 in
theorem c_96 {d : Nat} {P : Int → qM → Prop} {M : qM} (hT : q_top M = 1) (hk : q_kd M 0 = 10) (hP : P 0 (q_run q_o96 M)) : q_WP q_Pr (d + 3) 96 [.inr (.inr 0)] M P := by
  refine q_enter (s_96_0 ?_)
  simp only [q_o96, q_run, q_op] at hP
  simp [q_wn_top, q_wr_top, q_al_top, q_wn_kd, q_wr_kd, q_al_kd, q_wn_ln, q_wr_ln, q_al_ln, q_wn_rf, q_wr_rf, q_al_rf, q_wn_nm, q_wr_nm, q_al_nm, hT, hk, q_nk, q_ak, q_ns, q_run, q_op]
  refine c_64 (T := 2) (by simp [q_wn_top, q_wr_top, q_al_top, q_wn_kd, q_wr_kd, q_al_kd, q_wn_ln, q_wr_ln, q_al_ln, q_wn_rf, q_wr_rf, q_al_rf, q_wn_nm, q_wr_nm, q_al_nm, hT, hk, q_nk, q_ak, q_ns, q_run, q_op]) (by decide) (by decide) (by simp [q_wn_top, q_wr_top, q_al_top, q_wn_kd, q_wr_kd, q_al_kd, q_wn_ln, q_wr_ln, q_al_ln, q_wn_rf, q_wr_rf, q_al_rf, q_wn_nm, q_wr_nm, q_al_nm, hT, hk, q_nk, q_ak, q_ns, q_run, q_op]) ?_
  simp [q_wn_top, q_wr_top, q_al_top, q_wn_kd, q_wr_kd, q_al_kd, q_wn_ln, q_wr_ln, q_al_ln, q_wn_rf, q_wr_rf, q_al_rf, q_wn_nm, q_wr_nm, q_al_nm, hT, hk, q_nk, q_ak, q_ns, q_run, q_op]
  refine c_78 (by simp [q_wn_top, q_wr_top, q_al_top, q_wn_kd, q_wr_kd, q_al_kd, q_wn_ln, q_wr_ln, q_al_ln, q_wn_rf, q_wr_rf, q_al_rf, q_wn_nm, q_wr_nm, q_al_nm, hT, hk, q_nk, q_ak, q_ns, q_run, q_op]) (by simp [q_wn_top, q_wr_top, q_al_top, q_wn_kd, q_wr_kd, q_al_kd, q_wn_ln, q_wr_ln, q_al_ln, q_wn_rf, q_wr_rf, q_al_rf, q_wn_nm, q_wr_nm, q_al_nm, hT, hk, q_nk, q_ak, q_ns, q_run, q_op]) ?_
  simp [q_wn_top, q_wr_top, q_al_top, q_wn_kd, q_wr_kd, q_al_kd, q_wn_ln, q_wr_ln, q_al_ln, q_wn_rf, q_wr_rf, q_al_rf, q_wn_nm, q_wr_nm, q_al_nm, hT, hk, q_nk, q_ak, q_ns, q_run, q_op, q_o78]
  refine c_0 (T := 16) (by simp [q_wn_top, q_wr_top, q_al_top, q_wn_kd, q_wr_kd, q_al_kd, q_wn_ln, q_wr_ln, q_al_ln, q_wn_rf, q_wr_rf, q_al_rf, q_wn_nm, q_wr_nm, q_al_nm, hT, hk, q_nk, q_ak, q_ns, q_run, q_op, q_o78]) (by decide) (by decide) (by simp [q_wn_top, q_wr_top, q_al_top, q_wn_kd, q_wr_kd, q_al_kd, q_wn_ln, q_wr_ln, q_al_ln, q_wn_rf, q_wr_rf, q_al_rf, q_wn_nm, q_wr_nm, q_al_nm, hT, hk, q_nk, q_ak, q_ns, q_run, q_op, q_o78]) ?_
  simp [q_wn_top, q_wr_top, q_al_top, q_wn_kd, q_wr_kd, q_al_kd, q_wn_ln, q_wr_ln, q_al_ln, q_wn_rf, q_wr_rf, q_al_rf, q_wn_nm, q_wr_nm, q_al_nm, hT, hk, q_nk, q_ak, q_ns, q_run, q_op, q_o78]
  refine c_57 (T := 20) (by simp [q_wn_top, q_wr_top, q_al_top, q_wn_kd, q_wr_kd, q_al_kd, q_wn_ln, q_wr_ln, q_al_ln, q_wn_rf, q_wr_rf, q_al_rf, q_wn_nm, q_wr_nm, q_al_nm, hT, hk, q_nk, q_ak, q_ns, q_run, q_op, q_o78]) (by decide) (by decide) (by simp [q_wn_top, q_wr_top, q_al_top, q_wn_kd, q_wr_kd, q_al_kd, q_wn_ln, q_wr_ln, q_al_ln, q_wn_rf, q_wr_rf, q_al_rf, q_wn_nm, q_wr_nm, q_al_nm, hT, hk, q_nk, q_ak, q_ns, q_run, q_op, q_o78]) ?_
  simp [q_wn_top, q_wr_top, q_al_top, q_wn_kd, q_wr_kd, q_al_kd, q_wn_ln, q_wr_ln, q_al_ln, q_wn_rf, q_wr_rf, q_al_rf, q_wn_nm, q_wr_nm, q_al_nm, hT, hk, q_nk, q_ak, q_ns, q_run, q_op, q_o78]
  refine c_33 (by simp [q_wn_top, q_wr_top, q_al_top, q_wn_kd, q_wr_kd, q_al_kd, q_wn_ln, q_wr_ln, q_al_ln, q_wn_rf, q_wr_rf, q_al_rf, q_wn_nm, q_wr_nm, q_al_nm, hT, hk, q_nk, q_ak, q_ns, q_run, q_op, q_o78]) (by simp [q_wn_top, q_wr_top, q_al_top, q_wn_kd, q_wr_kd, q_al_kd, q_wn_ln, q_wr_ln, q_al_ln, q_wn_rf, q_wr_rf, q_al_rf, q_wn_nm, q_wr_nm, q_al_nm, hT, hk, q_nk, q_ak, q_ns, q_run, q_op, q_o78]) ?_
  simp [q_wn_top, q_wr_top, q_al_top, q_wn_kd, q_wr_kd, q_al_kd, q_wn_ln, q_wr_ln, q_al_ln, q_wn_rf, q_wr_rf, q_al_rf, q_wn_nm, q_wr_nm, q_al_nm, hT, hk, q_nk, q_ak, q_ns, q_run, q_op, q_o78, q_o33]
  refine c_36 (T := 65) (by simp [q_wn_top, q_wr_top, q_al_top, q_wn_kd, q_wr_kd, q_al_kd, q_wn_ln, q_wr_ln, q_al_ln, q_wn_rf, q_wr_rf, q_al_rf, q_wn_nm, q_wr_nm, q_al_nm, hT, hk, q_nk, q_ak, q_ns, q_run, q_op, q_o78, q_o33]) (by decide) (by decide) (by simp [q_wn_top, q_wr_top, q_al_top, q_wn_kd, q_wr_kd, q_al_kd, q_wn_ln, q_wr_ln, q_al_ln, q_wn_rf, q_wr_rf, q_al_rf, q_wn_nm, q_wr_nm, q_al_nm, hT, hk, q_nk, q_ak, q_ns, q_run, q_op, q_o78, q_o33]) ?_
  simp [q_wn_top, q_wr_top, q_al_top, q_wn_kd, q_wr_kd, q_al_kd, q_wn_ln, q_wr_ln, q_al_ln, q_wn_rf, q_wr_rf, q_al_rf, q_wn_nm, q_wr_nm, q_al_nm, hT, hk, q_nk, q_ak, q_ns, q_run, q_op, q_o78, q_o33]
  exact hP
def q_oAll : List qOp := (0, 10, 12, 0) :: (q_o96 ++ ((0, 11, 82, 0) :: q_o145))
end
