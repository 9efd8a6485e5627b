section
set_option maxRecDepth 100000 in
theorem q_cw0 : Cond.code (q_y 0) (q_b 0) (q_nl 0) (q_rtt 0) ∈ q_tbl := q_mem_rfl 1 101 rfl rfl
set_option maxRecDepth 100000 in
theorem q_cw1 : Cond.code (q_y 1) (q_b 1) (q_nl 1) (q_rtt 1) ∈ q_tbl := q_mem_rfl 4 14 rfl rfl
set_option maxRecDepth 100000 in
theorem q_cw2 : Cond.code (q_y 2) (q_b 2) (q_nl 2) (q_rtt 2) ∈ q_tbl := q_mem_rfl 4 18 rfl rfl
set_option maxRecDepth 100000 in
theorem q_cw3 : Cond.code (q_y 3) (q_b 3) (q_nl 3) (q_rtt 3) ∈ q_tbl := q_mem_rfl 4 22 rfl rfl
set_option maxRecDepth 100000 in
theorem q_cw4 : Cond.code (q_y 4) (q_b 4) (q_nl 4) (q_rtt 4) ∈ q_tbl := q_mem_rfl 4 25 rfl rfl
set_option maxRecDepth 100000 in
theorem q_cw5 : Cond.code (q_y 5) (q_b 5) (q_nl 5) (q_rtt 5) ∈ q_tbl := q_mem_rfl 2 41 rfl rfl
set_option maxRecDepth 100000 in
theorem q_cw6 : Cond.code (q_y 6) (q_b 6) (q_nl 6) (q_rtt 6) ∈ q_tbl := q_mem_rfl 3 231 rfl rfl
set_option maxRecDepth 100000 in
theorem q_cw7 : Cond.code (q_y 7) (q_b 7) (q_nl 7) (q_rtt 7) ∈ q_tbl := q_mem_rfl 3 134 rfl rfl
set_option maxRecDepth 100000 in
theorem q_cw8 : Cond.code (q_y 8) (q_b 8) (q_nl 8) (q_rtt 8) ∈ q_tbl := q_mem_rfl 3 138 rfl rfl
set_option maxRecDepth 100000 in
theorem q_cw9 : Cond.code (q_y 9) (q_b 9) (q_nl 9) (q_rtt 9) ∈ q_tbl := q_mem_rfl 3 146 rfl rfl
set_option maxRecDepth 100000 in
theorem q_cw10 : Cond.code (q_y 10) (q_b 10) (q_nl 10) (q_rtt 10) ∈ q_tbl := q_mem_rfl 3 142 rfl rfl
set_option maxRecDepth 100000 in
theorem q_cw11 : Cond.code (q_y 11) (q_b 11) (q_nl 11) (q_rtt 11) ∈ q_tbl := q_mem_rfl 3 179 rfl rfl
set_option maxRecDepth 100000 in
theorem q_cw12 : Cond.code (q_y 12) (q_b 12) (q_nl 12) (q_rtt 12) ∈ q_tbl := q_mem_rfl 3 183 rfl rfl
set_option maxRecDepth 100000 in
theorem q_cw13 : Cond.code (q_y 13) (q_b 13) (q_nl 13) (q_rtt 13) ∈ q_tbl := q_mem_rfl 3 175 rfl rfl
set_option maxRecDepth 100000 in
theorem q_cw14 : Cond.code (q_y 14) (q_b 14) (q_nl 14) (q_rtt 14) ∈ q_tbl := q_mem_rfl 3 196 rfl rfl
set_option maxRecDepth 100000 in
theorem q_cw15 : Cond.code (q_y 15) (q_b 15) (q_nl 15) (q_rtt 15) ∈ q_tbl := q_mem_rfl 3 204 rfl rfl
set_option maxRecDepth 100000 in
theorem q_cw16 : Cond.code (q_y 16) (q_b 16) (q_nl 16) (q_rtt 16) ∈ q_tbl := q_mem_rfl 3 212 rfl rfl
set_option maxRecDepth 100000 in
theorem q_cw17 : Cond.code (q_y 17) (q_b 17) (q_nl 17) (q_rtt 17) ∈ q_tbl := q_mem_rfl 3 219 rfl rfl
set_option maxRecDepth 100000 in
theorem q_cw18 : Cond.code (q_y 18) (q_b 18) (q_nl 18) (q_rtt 18) ∈ q_tbl := q_mem_rfl 4 62 rfl rfl
set_option maxRecDepth 100000 in
theorem q_cw19 : Cond.code (q_y 19) (q_b 19) (q_nl 19) (q_rtt 19) ∈ q_tbl := q_mem_rfl 4 119 rfl rfl
set_option maxRecDepth 100000 in
theorem q_cw20 : Cond.code (q_y 20) (q_b 20) (q_nl 20) (q_rtt 20) ∈ q_tbl := q_mem_rfl 4 110 rfl rfl
set_option maxRecDepth 100000 in
theorem q_cw21 : Cond.code (q_y 21) (q_b 21) (q_nl 21) (q_rtt 21) ∈ q_tbl := q_mem_rfl 4 124 rfl rfl
set_option maxRecDepth 100000 in
theorem q_cw22 : Cond.code (q_y 22) (q_b 22) (q_nl 22) (q_rtt 22) ∈ q_tbl := q_mem_rfl 3 239 rfl rfl
set_option maxRecDepth 100000 in
theorem q_cw23 : Cond.code (q_y 23) (q_b 23) (q_nl 23) (q_rtt 23) ∈ q_tbl := q_mem_rfl 4 42 rfl rfl
set_option maxRecDepth 100000 in
theorem q_cw24 : Cond.code (q_y 24) (q_b 24) (q_nl 24) (q_rtt 24) ∈ q_tbl := q_mem_rfl 4 3 rfl rfl
set_option maxRecDepth 100000 in
theorem q_cw25 : Cond.code (q_y 25) (q_b 25) (q_nl 25) (q_rtt 25) ∈ q_tbl := q_mem_rfl 4 79 rfl rfl
set_option maxRecDepth 100000 in
theorem q_cw26 : Cond.code (q_y 26) (q_b 26) (q_nl 26) (q_rtt 26) ∈ q_tbl := q_mem_rfl 4 148 rfl rfl
set_option maxRecDepth 100000 in
theorem q_cw27 : Cond.code (q_y 27) (q_b 27) (q_nl 27) (q_rtt 27) ∈ q_tbl := q_mem_rfl 4 132 rfl rfl
set_option maxRecDepth 100000 in
theorem q_cw28 : Cond.code (q_y 28) (q_b 28) (q_nl 28) (q_rtt 28) ∈ q_tbl := q_mem_rfl 4 160 rfl rfl
set_option maxRecDepth 100000 in
theorem q_cw29 : Cond.code (q_y 29) (q_b 29) (q_nl 29) (q_rtt 29) ∈ q_tbl := q_mem_rfl 4 198 rfl rfl
set_option maxRecDepth 100000 in
theorem q_cw30 : Cond.code (q_y 30) (q_b 30) (q_nl 30) (q_rtt 30) ∈ q_tbl := q_mem_rfl 4 210 rfl rfl
set_option maxRecDepth 100000 in
theorem q_cw31 : Cond.code (q_y 31) (q_b 31) (q_nl 31) (q_rtt 31) ∈ q_tbl := q_mem_rfl 4 218 rfl rfl
set_option maxRecDepth 100000 in
theorem q_cw32 : Cond.code (q_y 32) (q_b 32) (q_nl 32) (q_rtt 32) ∈ q_tbl := q_mem_rfl 4 226 rfl rfl
set_option maxRecDepth 100000 in
theorem q_cw33 : Cond.code (q_y 33) (q_b 33) (q_nl 33) (q_rtt 33) ∈ q_tbl := q_mem_rfl 1 132 rfl rfl
set_option maxRecDepth 100000 in
theorem q_cw34 : Cond.code (q_y 34) (q_b 34) (q_nl 34) (q_rtt 34) ∈ q_tbl := q_mem_rfl 4 168 rfl rfl
set_option maxRecDepth 100000 in
theorem q_cw35 : Cond.code (q_y 35) (q_b 35) (q_nl 35) (q_rtt 35) ∈ q_tbl := q_mem_rfl 5 39 rfl rfl
set_option maxRecDepth 100000 in
theorem q_cw36 : Cond.code (q_y 36) (q_b 36) (q_nl 36) (q_rtt 36) ∈ q_tbl := q_mem_rfl 1 157 rfl rfl
set_option maxRecDepth 100000 in
theorem q_cw37 : Cond.code (q_y 37) (q_b 37) (q_nl 37) (q_rtt 37) ∈ q_tbl := q_mem_rfl 5 18 rfl rfl
set_option maxRecDepth 100000 in
theorem q_cw38 : Cond.code (q_y 38) (q_b 38) (q_nl 38) (q_rtt 38) ∈ q_tbl := q_mem_rfl 5 22 rfl rfl
set_option maxRecDepth 100000 in
theorem q_cw39 : Cond.code (q_y 39) (q_b 39) (q_nl 39) (q_rtt 39) ∈ q_tbl := q_mem_rfl 5 33 rfl rfl
set_option maxRecDepth 100000 in
theorem q_cw40 : Cond.code (q_y 40) (q_b 40) (q_nl 40) (q_rtt 40) ∈ q_tbl := q_mem_rfl 2 126 rfl rfl
set_option maxRecDepth 100000 in
theorem q_cw41 : Cond.code (q_y 41) (q_b 41) (q_nl 41) (q_rtt 41) ∈ q_tbl := q_mem_rfl 2 208 rfl rfl
set_option maxRecDepth 100000 in
theorem q_cw42 : Cond.code (q_y 42) (q_b 42) (q_nl 42) (q_rtt 42) ∈ q_tbl := q_mem_rfl 3 66 rfl rfl
set_option maxRecDepth 100000 in
theorem q_cw43 : Cond.code (q_y 43) (q_b 43) (q_nl 43) (q_rtt 43) ∈ q_tbl := q_mem_rfl 3 70 rfl rfl
set_option maxRecDepth 100000 in
theorem q_cw44 : Cond.code (q_y 44) (q_b 44) (q_nl 44) (q_rtt 44) ∈ q_tbl := q_mem_rfl 3 94 rfl rfl
set_option maxRecDepth 100000 in
theorem q_cw45 : Cond.code (q_y 45) (q_b 45) (q_nl 45) (q_rtt 45) ∈ q_tbl := q_mem_rfl 3 90 rfl rfl
set_option maxRecDepth 100000 in
theorem q_cw46 : Cond.code (q_y 46) (q_b 46) (q_nl 46) (q_rtt 46) ∈ q_tbl := q_mem_rfl 3 59 rfl rfl
set_option maxRecDepth 100000 in
theorem q_cw47 : Cond.code (q_y 47) (q_b 47) (q_nl 47) (q_rtt 47) ∈ q_tbl := q_mem_rfl 3 98 rfl rfl
set_option maxRecDepth 100000 in
theorem q_cw48 : Cond.code (q_y 48) (q_b 48) (q_nl 48) (q_rtt 48) ∈ q_tbl := q_mem_rfl 3 102 rfl rfl
set_option maxRecDepth 100000 in
theorem q_cw49 : Cond.code (q_y 49) (q_b 49) (q_nl 49) (q_rtt 49) ∈ q_tbl := q_mem_rfl 3 106 rfl rfl
set_option maxRecDepth 100000 in
theorem q_cw50 : Cond.code (q_y 50) (q_b 50) (q_nl 50) (q_rtt 50) ∈ q_tbl := q_mem_rfl 3 74 rfl rfl
set_option maxRecDepth 100000 in
theorem q_cw51 : Cond.code (q_y 51) (q_b 51) (q_nl 51) (q_rtt 51) ∈ q_tbl := q_mem_rfl 3 78 rfl rfl
set_option maxRecDepth 100000 in
theorem q_cw52 : Cond.code (q_y 52) (q_b 52) (q_nl 52) (q_rtt 52) ∈ q_tbl := q_mem_rfl 3 82 rfl rfl
set_option maxRecDepth 100000 in
theorem q_cw53 : Cond.code (q_y 53) (q_b 53) (q_nl 53) (q_rtt 53) ∈ q_tbl := q_mem_rfl 2 132 rfl rfl
set_option maxRecDepth 100000 in
theorem q_cw54 : Cond.code (q_y 54) (q_b 54) (q_nl 54) (q_rtt 54) ∈ q_tbl := q_mem_rfl 3 86 rfl rfl
set_option maxRecDepth 100000 in
theorem q_cw55 : Cond.code (q_y 55) (q_b 55) (q_nl 55) (q_rtt 55) ∈ q_tbl := q_mem_rfl 3 110 rfl rfl
set_option maxRecDepth 100000 in
theorem q_cw56 : Cond.code (q_y 56) (q_b 56) (q_nl 56) (q_rtt 56) ∈ q_tbl := q_mem_rfl 4 10 rfl rfl
set_option maxRecDepth 100000 in
theorem q_cw57 : Cond.code (q_y 57) (q_b 57) (q_nl 57) (q_rtt 57) ∈ q_tbl := q_mem_rfl 1 115 rfl rfl
set_option maxRecDepth 100000 in
theorem q_cw58 : Cond.code (q_y 58) (q_b 58) (q_nl 58) (q_rtt 58) ∈ q_tbl := q_mem_rfl 4 101 rfl rfl
set_option maxRecDepth 100000 in
theorem q_cw59 : Cond.code (q_y 59) (q_b 59) (q_nl 59) (q_rtt 59) ∈ q_tbl := q_mem_rfl 4 66 rfl rfl
set_option maxRecDepth 100000 in
theorem q_cw60 : Cond.code (q_y 60) (q_b 60) (q_nl 60) (q_rtt 60) ∈ q_tbl := q_mem_rfl 4 172 rfl rfl
set_option maxRecDepth 100000 in
theorem q_cw61 : Cond.code (q_y 61) (q_b 61) (q_nl 61) (q_rtt 61) ∈ q_tbl := q_mem_rfl 4 86 rfl rfl
set_option maxRecDepth 100000 in
theorem q_cw62 : Cond.code (q_y 62) (q_b 62) (q_nl 62) (q_rtt 62) ∈ q_tbl := q_mem_rfl 4 92 rfl rfl
set_option maxRecDepth 100000 in
theorem q_cw63 : Cond.code (q_y 63) (q_b 63) (q_nl 63) (q_rtt 63) ∈ q_tbl := q_mem_rfl 4 114 rfl rfl
set_option maxRecDepth 100000 in
theorem q_cw64 : Cond.code (q_y 64) (q_b 64) (q_nl 64) (q_rtt 64) ∈ q_tbl := q_mem_rfl 1 32 rfl rfl
set_option maxRecDepth 100000 in
theorem q_cw65 : Cond.code (q_y 65) (q_b 65) (q_nl 65) (q_rtt 65) ∈ q_tbl := q_mem_rfl 1 212 rfl rfl
set_option maxRecDepth 100000 in
theorem q_cw66 : Cond.code (q_y 66) (q_b 66) (q_nl 66) (q_rtt 66) ∈ q_tbl := q_mem_rfl 1 232 rfl rfl
set_option maxRecDepth 100000 in
theorem q_cw67 : Cond.code (q_y 67) (q_b 67) (q_nl 67) (q_rtt 67) ∈ q_tbl := q_mem_rfl 1 228 rfl rfl
set_option maxRecDepth 100000 in
theorem q_cw68 : Cond.code (q_y 68) (q_b 68) (q_nl 68) (q_rtt 68) ∈ q_tbl := q_mem_rfl 2 225 rfl rfl
set_option maxRecDepth 100000 in
theorem q_cw69 : Cond.code (q_y 69) (q_b 69) (q_nl 69) (q_rtt 69) ∈ q_tbl := q_mem_rfl 2 216 rfl rfl
set_option maxRecDepth 100000 in
theorem q_cw70 : Cond.code (q_y 70) (q_b 70) (q_nl 70) (q_rtt 70) ∈ q_tbl := q_mem_rfl 2 165 rfl rfl
set_option maxRecDepth 100000 in
theorem q_cw71 : Cond.code (q_y 71) (q_b 71) (q_nl 71) (q_rtt 71) ∈ q_tbl := q_mem_rfl 2 212 rfl rfl
set_option maxRecDepth 100000 in
theorem q_cw72 : Cond.code (q_y 72) (q_b 72) (q_nl 72) (q_rtt 72) ∈ q_tbl := q_mem_rfl 2 220 rfl rfl
set_option maxRecDepth 100000 in
theorem q_cw73 : Cond.code (q_y 73) (q_b 73) (q_nl 73) (q_rtt 73) ∈ q_tbl := q_mem_rfl 2 230 rfl rfl
set_option maxRecDepth 100000 in
theorem q_cw74 : Cond.code (q_y 74) (q_b 74) (q_nl 74) (q_rtt 74) ∈ q_tbl := q_mem_rfl 3 52 rfl rfl
set_option maxRecDepth 100000 in
theorem q_cw75 : Cond.code (q_y 75) (q_b 75) (q_nl 75) (q_rtt 75) ∈ q_tbl := q_mem_rfl 3 55 rfl rfl
set_option maxRecDepth 100000 in
theorem q_cw76 : Cond.code (q_y 76) (q_b 76) (q_nl 76) (q_rtt 76) ∈ q_tbl := q_mem_rfl 2 234 rfl rfl
set_option maxRecDepth 100000 in
theorem q_cw77 : Cond.code (q_y 77) (q_b 77) (q_nl 77) (q_rtt 77) ∈ q_tbl := q_mem_rfl 3 47 rfl rfl
set_option maxRecDepth 100000 in
theorem q_cw78 : Cond.code (q_y 78) (q_b 78) (q_nl 78) (q_rtt 78) ∈ q_tbl := q_mem_rfl 1 51 rfl rfl
set_option maxRecDepth 100000 in
theorem q_cw79 : Cond.code (q_y 79) (q_b 79) (q_nl 79) (q_rtt 79) ∈ q_tbl := q_mem_rfl 2 21 rfl rfl
set_option maxRecDepth 100000 in
theorem q_cw80 : Cond.code (q_y 80) (q_b 80) (q_nl 80) (q_rtt 80) ∈ q_tbl := q_mem_rfl 1 224 rfl rfl
set_option maxRecDepth 100000 in
theorem q_cw81 : Cond.code (q_y 81) (q_b 81) (q_nl 81) (q_rtt 81) ∈ q_tbl := q_mem_rfl 1 237 rfl rfl
set_option maxRecDepth 100000 in
theorem q_cw82 : Cond.code (q_y 82) (q_b 82) (q_nl 82) (q_rtt 82) ∈ q_tbl := q_mem_rfl 2 8 rfl rfl
set_option maxRecDepth 100000 in
theorem q_cw83 : Cond.code (q_y 83) (q_b 83) (q_nl 83) (q_rtt 83) ∈ q_tbl := q_mem_rfl 2 4 rfl rfl
set_option maxRecDepth 100000 in
theorem q_cw84 : Cond.code (q_y 84) (q_b 84) (q_nl 84) (q_rtt 84) ∈ q_tbl := q_mem_rfl 2 1 rfl rfl
set_option maxRecDepth 100000 in
theorem q_cw85 : Cond.code (q_y 85) (q_b 85) (q_nl 85) (q_rtt 85) ∈ q_tbl := q_mem_rfl 3 162 rfl rfl
set_option maxRecDepth 100000 in
theorem q_cw86 : Cond.code (q_y 86) (q_b 86) (q_nl 86) (q_rtt 86) ∈ q_tbl := q_mem_rfl 2 13 rfl rfl
set_option maxRecDepth 100000 in
theorem q_cw87 : Cond.code (q_y 87) (q_b 87) (q_nl 87) (q_rtt 87) ∈ q_tbl := q_mem_rfl 3 192 rfl rfl
set_option maxRecDepth 100000 in
theorem q_cw88 : Cond.code (q_y 88) (q_b 88) (q_nl 88) (q_rtt 88) ∈ q_tbl := q_mem_rfl 3 200 rfl rfl
set_option maxRecDepth 100000 in
theorem q_cw89 : Cond.code (q_y 89) (q_b 89) (q_nl 89) (q_rtt 89) ∈ q_tbl := q_mem_rfl 3 223 rfl rfl
set_option maxRecDepth 100000 in
theorem q_cw90 : Cond.code (q_y 90) (q_b 90) (q_nl 90) (q_rtt 90) ∈ q_tbl := q_mem_rfl 3 187 rfl rfl
set_option maxRecDepth 100000 in
theorem q_cw91 : Cond.code (q_y 91) (q_b 91) (q_nl 91) (q_rtt 91) ∈ q_tbl := q_mem_rfl 3 150 rfl rfl
set_option maxRecDepth 100000 in
theorem q_cw92 : Cond.code (q_y 92) (q_b 92) (q_nl 92) (q_rtt 92) ∈ q_tbl := q_mem_rfl 3 154 rfl rfl
set_option maxRecDepth 100000 in
theorem q_cw93 : Cond.code (q_y 93) (q_b 93) (q_nl 93) (q_rtt 93) ∈ q_tbl := q_mem_rfl 3 158 rfl rfl
set_option maxRecDepth 100000 in
theorem q_cw94 : Cond.code (q_y 94) (q_b 94) (q_nl 94) (q_rtt 94) ∈ q_tbl := q_mem_rfl 3 171 rfl rfl
set_option maxRecDepth 100000 in
theorem q_cw95 : Cond.code (q_y 95) (q_b 95) (q_nl 95) (q_rtt 95) ∈ q_tbl := q_mem_rfl 3 166 rfl rfl
set_option maxRecDepth 100000 in
theorem q_cw96 : Cond.code (q_y 96) (q_b 96) (q_nl 96) (q_rtt 96) ∈ q_tbl := q_mem_rfl 1 24 rfl rfl
set_option maxRecDepth 100000 in
theorem q_cw97 : Cond.code (q_y 97) (q_b 97) (q_nl 97) (q_rtt 97) ∈ q_tbl := q_mem_rfl 1 208 rfl rfl
set_option maxRecDepth 100000 in
theorem q_cw98 : Cond.code (q_y 98) (q_b 98) (q_nl 98) (q_rtt 98) ∈ q_tbl := q_mem_rfl 1 216 rfl rfl
set_option maxRecDepth 100000 in
theorem q_cw99 : Cond.code (q_y 99) (q_b 99) (q_nl 99) (q_rtt 99) ∈ q_tbl := q_mem_rfl 1 220 rfl rfl
set_option maxRecDepth 100000 in
theorem q_cw100 : Cond.code (q_y 100) (q_b 100) (q_nl 100) (q_rtt 100) ∈ q_tbl := q_mem_rfl 2 17 rfl rfl
set_option maxRecDepth 100000 in
theorem q_cw101 : Cond.code (q_y 101) (q_b 101) (q_nl 101) (q_rtt 101) ∈ q_tbl := q_mem_rfl 2 109 rfl rfl
set_option maxRecDepth 100000 in
theorem q_cw102 : Cond.code (q_y 102) (q_b 102) (q_nl 102) (q_rtt 102) ∈ q_tbl := q_mem_rfl 2 117 rfl rfl
set_option maxRecDepth 100000 in
theorem q_cw103 : Cond.code (q_y 103) (q_b 103) (q_nl 103) (q_rtt 103) ∈ q_tbl := q_mem_rfl 3 114 rfl rfl
set_option maxRecDepth 100000 in
theorem q_cw104 : Cond.code (q_y 104) (q_b 104) (q_nl 104) (q_rtt 104) ∈ q_tbl := q_mem_rfl 3 118 rfl rfl
set_option maxRecDepth 100000 in
theorem q_cw105 : Cond.code (q_y 105) (q_b 105) (q_nl 105) (q_rtt 105) ∈ q_tbl := q_mem_rfl 3 122 rfl rfl
set_option maxRecDepth 100000 in
theorem q_cw106 : Cond.code (q_y 106) (q_b 106) (q_nl 106) (q_rtt 106) ∈ q_tbl := q_mem_rfl 3 227 rfl rfl
set_option maxRecDepth 100000 in
theorem q_cw107 : Cond.code (q_y 107) (q_b 107) (q_nl 107) (q_rtt 107) ∈ q_tbl := q_mem_rfl 4 46 rfl rfl
set_option maxRecDepth 100000 in
theorem q_cw108 : Cond.code (q_y 108) (q_b 108) (q_nl 108) (q_rtt 108) ∈ q_tbl := q_mem_rfl 4 58 rfl rfl
set_option maxRecDepth 100000 in
theorem q_cw109 : Cond.code (q_y 109) (q_b 109) (q_nl 109) (q_rtt 109) ∈ q_tbl := q_mem_rfl 4 71 rfl rfl
set_option maxRecDepth 100000 in
theorem q_cw110 : Cond.code (q_y 110) (q_b 110) (q_nl 110) (q_rtt 110) ∈ q_tbl := q_mem_rfl 4 83 rfl rfl
set_option maxRecDepth 100000 in
theorem q_cw111 : Cond.code (q_y 111) (q_b 111) (q_nl 111) (q_rtt 111) ∈ q_tbl := q_mem_rfl 4 97 rfl rfl
set_option maxRecDepth 100000 in
theorem q_cw112 : Cond.code (q_y 112) (q_b 112) (q_nl 112) (q_rtt 112) ∈ q_tbl := q_mem_rfl 4 105 rfl rfl
set_option maxRecDepth 100000 in
theorem q_cw113 : Cond.code (q_y 113) (q_b 113) (q_nl 113) (q_rtt 113) ∈ q_tbl := q_mem_rfl 4 128 rfl rfl
set_option maxRecDepth 100000 in
theorem q_cw114 : Cond.code (q_y 114) (q_b 114) (q_nl 114) (q_rtt 114) ∈ q_tbl := q_mem_rfl 4 140 rfl rfl
set_option maxRecDepth 100000 in
theorem q_cw115 : Cond.code (q_y 115) (q_b 115) (q_nl 115) (q_rtt 115) ∈ q_tbl := q_mem_rfl 4 144 rfl rfl
set_option maxRecDepth 100000 in
theorem q_cw116 : Cond.code (q_y 116) (q_b 116) (q_nl 116) (q_rtt 116) ∈ q_tbl := q_mem_rfl 4 152 rfl rfl
set_option maxRecDepth 100000 in
theorem q_cw117 : Cond.code (q_y 117) (q_b 117) (q_nl 117) (q_rtt 117) ∈ q_tbl := q_mem_rfl 4 156 rfl rfl
set_option maxRecDepth 100000 in
theorem q_cw118 : Cond.code (q_y 118) (q_b 118) (q_nl 118) (q_rtt 118) ∈ q_tbl := q_mem_rfl 4 164 rfl rfl
set_option maxRecDepth 100000 in
theorem q_cw119 : Cond.code (q_y 119) (q_b 119) (q_nl 119) (q_rtt 119) ∈ q_tbl := q_mem_rfl 4 177 rfl rfl
set_option maxRecDepth 100000 in
theorem q_cw120 : Cond.code (q_y 120) (q_b 120) (q_nl 120) (q_rtt 120) ∈ q_tbl := q_mem_rfl 4 181 rfl rfl
set_option maxRecDepth 100000 in
theorem q_cw121 : Cond.code (q_y 121) (q_b 121) (q_nl 121) (q_rtt 121) ∈ q_tbl := q_mem_rfl 4 186 rfl rfl
set_option maxRecDepth 100000 in
theorem q_cw122 : Cond.code (q_y 122) (q_b 122) (q_nl 122) (q_rtt 122) ∈ q_tbl := q_mem_rfl 4 190 rfl rfl
set_option maxRecDepth 100000 in
theorem q_cw123 : Cond.code (q_y 123) (q_b 123) (q_nl 123) (q_rtt 123) ∈ q_tbl := q_mem_rfl 4 202 rfl rfl
set_option maxRecDepth 100000 in
theorem q_cw124 : Cond.code (q_y 124) (q_b 124) (q_nl 124) (q_rtt 124) ∈ q_tbl := q_mem_rfl 4 206 rfl rfl
set_option maxRecDepth 100000 in
theorem q_cw125 : Cond.code (q_y 125) (q_b 125) (q_nl 125) (q_rtt 125) ∈ q_tbl := q_mem_rfl 4 214 rfl rfl
set_option maxRecDepth 100000 in
theorem q_cw126 : Cond.code (q_y 126) (q_b 126) (q_nl 126) (q_rtt 126) ∈ q_tbl := q_mem_rfl 4 222 rfl rfl
set_option maxRecDepth 100000 in
theorem q_cw127 : Cond.code (q_y 127) (q_b 127) (q_nl 127) (q_rtt 127) ∈ q_tbl := q_mem_rfl 4 234 rfl rfl
set_option maxRecDepth 100000 in
theorem q_cw128 : Cond.code (q_y 128) (q_b 128) (q_nl 128) (q_rtt 128) ∈ q_tbl := q_mem_rfl 5 2 rfl rfl
set_option maxRecDepth 100000 in
theorem q_cw129 : Cond.code (q_y 129) (q_b 129) (q_nl 129) (q_rtt 129) ∈ q_tbl := q_mem_rfl 5 6 rfl rfl
set_option maxRecDepth 100000 in
theorem q_cw130 : Cond.code (q_y 130) (q_b 130) (q_nl 130) (q_rtt 130) ∈ q_tbl := q_mem_rfl 5 10 rfl rfl
set_option maxRecDepth 100000 in
theorem q_cw131 : Cond.code (q_y 131) (q_b 131) (q_nl 131) (q_rtt 131) ∈ q_tbl := q_mem_rfl 5 14 rfl rfl
set_option maxRecDepth 100000 in
theorem q_cw132 : Cond.code (q_y 132) (q_b 132) (q_nl 132) (q_rtt 132) ∈ q_tbl := q_mem_rfl 5 26 rfl rfl
set_option maxRecDepth 100000 in
theorem q_cw133 : Cond.code (q_y 133) (q_b 133) (q_nl 133) (q_rtt 133) ∈ q_tbl := q_mem_rfl 5 30 rfl rfl
set_option maxRecDepth 100000 in
theorem q_cw134 : Cond.code (q_y 134) (q_b 134) (q_nl 134) (q_rtt 134) ∈ q_tbl := q_mem_rfl 3 62 rfl rfl
set_option maxRecDepth 100000 in
theorem q_cw135 : Cond.code (q_y 135) (q_b 135) (q_nl 135) (q_rtt 135) ∈ q_tbl := q_mem_rfl 3 130 rfl rfl
set_option maxRecDepth 100000 in
theorem q_cw136 : Cond.code (q_y 136) (q_b 136) (q_nl 136) (q_rtt 136) ∈ q_tbl := q_mem_rfl 4 54 rfl rfl
set_option maxRecDepth 100000 in
theorem q_cw137 : Cond.code (q_y 137) (q_b 137) (q_nl 137) (q_rtt 137) ∈ q_tbl := q_mem_rfl 2 113 rfl rfl
set_option maxRecDepth 100000 in
theorem q_cw138 : Cond.code (q_y 138) (q_b 138) (q_nl 138) (q_rtt 138) ∈ q_tbl := q_mem_rfl 2 121 rfl rfl
set_option maxRecDepth 100000 in
theorem q_cw139 : Cond.code (q_y 139) (q_b 139) (q_nl 139) (q_rtt 139) ∈ q_tbl := q_mem_rfl 3 126 rfl rfl
set_option maxRecDepth 100000 in
theorem q_cw140 : Cond.code (q_y 140) (q_b 140) (q_nl 140) (q_rtt 140) ∈ q_tbl := q_mem_rfl 4 50 rfl rfl
set_option maxRecDepth 100000 in
theorem q_cw141 : Cond.code (q_y 141) (q_b 141) (q_nl 141) (q_rtt 141) ∈ q_tbl := q_mem_rfl 4 194 rfl rfl
set_option maxRecDepth 100000 in
theorem q_cw142 : Cond.code (q_y 142) (q_b 142) (q_nl 142) (q_rtt 142) ∈ q_tbl := q_mem_rfl 3 235 rfl rfl
set_option maxRecDepth 100000 in
theorem q_cw143 : Cond.code (q_y 143) (q_b 143) (q_nl 143) (q_rtt 143) ∈ q_tbl := q_mem_rfl 4 238 rfl rfl
set_option maxRecDepth 100000 in
theorem q_cw144 : Cond.code (q_y 144) (q_b 144) (q_nl 144) (q_rtt 144) ∈ q_tbl := q_mem_rfl 4 136 rfl rfl
set_option maxRecDepth 100000 in
theorem q_cw145 : Cond.code (q_y 145) (q_b 145) (q_nl 145) (q_rtt 145) ∈ q_tbl := q_mem_rfl 5 48 rfl rfl
set_option maxRecDepth 100000 in
theorem q_cw146 : Cond.code (q_y 146) (q_b 146) (q_nl 146) (q_rtt 146) ∈ q_tbl := q_mem_rfl 6 74 rfl rfl
set_option maxRecDepth 100000 in
theorem q_cw147 : Cond.code (q_y 147) (q_b 147) (q_nl 147) (q_rtt 147) ∈ q_tbl := q_mem_rfl 6 62 rfl rfl
set_option maxRecDepth 100000 in
theorem q_cw148 : Cond.code (q_y 148) (q_b 148) (q_nl 148) (q_rtt 148) ∈ q_tbl := q_mem_rfl 6 66 rfl rfl
set_option maxRecDepth 100000 in
theorem q_cw149 : Cond.code (q_y 149) (q_b 149) (q_nl 149) (q_rtt 149) ∈ q_tbl := q_mem_rfl 6 119 rfl rfl
set_option maxRecDepth 100000 in
theorem q_cw150 : Cond.code (q_y 150) (q_b 150) (q_nl 150) (q_rtt 150) ∈ q_tbl := q_mem_rfl 6 134 rfl rfl
set_option maxRecDepth 100000 in
theorem q_cw151 : Cond.code (q_y 151) (q_b 151) (q_nl 151) (q_rtt 151) ∈ q_tbl := q_mem_rfl 6 165 rfl rfl
set_option maxRecDepth 100000 in
theorem q_cw152 : Cond.code (q_y 152) (q_b 152) (q_nl 152) (q_rtt 152) ∈ q_tbl := q_mem_rfl 6 111 rfl rfl
set_option maxRecDepth 100000 in
theorem q_cw153 : Cond.code (q_y 153) (q_b 153) (q_nl 153) (q_rtt 153) ∈ q_tbl := q_mem_rfl 6 131 rfl rfl
set_option maxRecDepth 100000 in
theorem q_cw154 : Cond.code (q_y 154) (q_b 154) (q_nl 154) (q_rtt 154) ∈ q_tbl := q_mem_rfl 6 127 rfl rfl
set_option maxRecDepth 100000 in
theorem q_cw155 : Cond.code (q_y 155) (q_b 155) (q_nl 155) (q_rtt 155) ∈ q_tbl := q_mem_rfl 6 150 rfl rfl
set_option maxRecDepth 100000 in
theorem q_cw156 : Cond.code (q_y 156) (q_b 156) (q_nl 156) (q_rtt 156) ∈ q_tbl := q_mem_rfl 6 158 rfl rfl
set_option maxRecDepth 100000 in
theorem q_cw157 : Cond.code (q_y 157) (q_b 157) (q_nl 157) (q_rtt 157) ∈ q_tbl := q_mem_rfl 6 154 rfl rfl
set_option maxRecDepth 100000 in
theorem q_cw158 : Cond.code (q_y 158) (q_b 158) (q_nl 158) (q_rtt 158) ∈ q_tbl := q_mem_rfl 6 162 rfl rfl
set_option maxRecDepth 100000 in
theorem q_cw159 : Cond.code (q_y 159) (q_b 159) (q_nl 159) (q_rtt 159) ∈ q_tbl := q_mem_rfl 6 90 rfl rfl
set_option maxRecDepth 100000 in
theorem q_cw160 : Cond.code (q_y 160) (q_b 160) (q_nl 160) (q_rtt 160) ∈ q_tbl := q_mem_rfl 6 78 rfl rfl
set_option maxRecDepth 100000 in
theorem q_cw161 : Cond.code (q_y 161) (q_b 161) (q_nl 161) (q_rtt 161) ∈ q_tbl := q_mem_rfl 6 87 rfl rfl
set_option maxRecDepth 100000 in
theorem q_cw162 : Cond.code (q_y 162) (q_b 162) (q_nl 162) (q_rtt 162) ∈ q_tbl := q_mem_rfl 6 70 rfl rfl
set_option maxRecDepth 100000 in
theorem q_cw163 : Cond.code (q_y 163) (q_b 163) (q_nl 163) (q_rtt 163) ∈ q_tbl := q_mem_rfl 6 94 rfl rfl
set_option maxRecDepth 100000 in
theorem q_cw164 : Cond.code (q_y 164) (q_b 164) (q_nl 164) (q_rtt 164) ∈ q_tbl := q_mem_rfl 6 229 rfl rfl
set_option maxRecDepth 100000 in
theorem q_cw165 : Cond.code (q_y 165) (q_b 165) (q_nl 165) (q_rtt 165) ∈ q_tbl := q_mem_rfl 7 98 rfl rfl
set_option maxRecDepth 100000 in
theorem q_cw166 : Cond.code (q_y 166) (q_b 166) (q_nl 166) (q_rtt 166) ∈ q_tbl := q_mem_rfl 6 98 rfl rfl
set_option maxRecDepth 100000 in
theorem q_cw167 : Cond.code (q_y 167) (q_b 167) (q_nl 167) (q_rtt 167) ∈ q_tbl := q_mem_rfl 6 169 rfl rfl
set_option maxRecDepth 100000 in
theorem q_cw168 : Cond.code (q_y 168) (q_b 168) (q_nl 168) (q_rtt 168) ∈ q_tbl := q_mem_rfl 6 146 rfl rfl
set_option maxRecDepth 100000 in
theorem q_cw169 : Cond.code (q_y 169) (q_b 169) (q_nl 169) (q_rtt 169) ∈ q_tbl := q_mem_rfl 6 193 rfl rfl
set_option maxRecDepth 100000 in
theorem q_cw170 : Cond.code (q_y 170) (q_b 170) (q_nl 170) (q_rtt 170) ∈ q_tbl := q_mem_rfl 6 189 rfl rfl
set_option maxRecDepth 100000 in
theorem q_cw171 : Cond.code (q_y 171) (q_b 171) (q_nl 171) (q_rtt 171) ∈ q_tbl := q_mem_rfl 6 181 rfl rfl
set_option maxRecDepth 100000 in
theorem q_cw172 : Cond.code (q_y 172) (q_b 172) (q_nl 172) (q_rtt 172) ∈ q_tbl := q_mem_rfl 6 177 rfl rfl
set_option maxRecDepth 100000 in
theorem q_cw173 : Cond.code (q_y 173) (q_b 173) (q_nl 173) (q_rtt 173) ∈ q_tbl := q_mem_rfl 6 185 rfl rfl
set_option maxRecDepth 100000 in
theorem q_cw174 : Cond.code (q_y 174) (q_b 174) (q_nl 174) (q_rtt 174) ∈ q_tbl := q_mem_rfl 6 142 rfl rfl
set_option maxRecDepth 100000 in
theorem q_cw175 : Cond.code (q_y 175) (q_b 175) (q_nl 175) (q_rtt 175) ∈ q_tbl := q_mem_rfl 6 173 rfl rfl
set_option maxRecDepth 100000 in
theorem q_cw176 : Cond.code (q_y 176) (q_b 176) (q_nl 176) (q_rtt 176) ∈ q_tbl := q_mem_rfl 6 138 rfl rfl
set_option maxRecDepth 100000 in
theorem q_cw177 : Cond.code (q_y 177) (q_b 177) (q_nl 177) (q_rtt 177) ∈ q_tbl := q_mem_rfl 6 201 rfl rfl
set_option maxRecDepth 100000 in
theorem q_cw178 : Cond.code (q_y 178) (q_b 178) (q_nl 178) (q_rtt 178) ∈ q_tbl := q_mem_rfl 6 213 rfl rfl
set_option maxRecDepth 100000 in
theorem q_cw179 : Cond.code (q_y 179) (q_b 179) (q_nl 179) (q_rtt 179) ∈ q_tbl := q_mem_rfl 6 205 rfl rfl
set_option maxRecDepth 100000 in
theorem q_cw180 : Cond.code (q_y 180) (q_b 180) (q_nl 180) (q_rtt 180) ∈ q_tbl := q_mem_rfl 6 197 rfl rfl
set_option maxRecDepth 100000 in
theorem q_cw181 : Cond.code (q_y 181) (q_b 181) (q_nl 181) (q_rtt 181) ∈ q_tbl := q_mem_rfl 6 209 rfl rfl
set_option maxRecDepth 100000 in
theorem q_cw182 : Cond.code (q_y 182) (q_b 182) (q_nl 182) (q_rtt 182) ∈ q_tbl := q_mem_rfl 6 123 rfl rfl
set_option maxRecDepth 100000 in
theorem q_cw183 : Cond.code (q_y 183) (q_b 183) (q_nl 183) (q_rtt 183) ∈ q_tbl := q_mem_rfl 6 115 rfl rfl
set_option maxRecDepth 100000 in
theorem q_cw184 : Cond.code (q_y 184) (q_b 184) (q_nl 184) (q_rtt 184) ∈ q_tbl := q_mem_rfl 6 107 rfl rfl
set_option maxRecDepth 100000 in
theorem q_cw185 : Cond.code (q_y 185) (q_b 185) (q_nl 185) (q_rtt 185) ∈ q_tbl := q_mem_rfl 6 102 rfl rfl
set_option maxRecDepth 100000 in
theorem q_cw186 : Cond.code (q_y 186) (q_b 186) (q_nl 186) (q_rtt 186) ∈ q_tbl := q_mem_rfl 6 217 rfl rfl
set_option maxRecDepth 100000 in
theorem q_cw187 : Cond.code (q_y 187) (q_b 187) (q_nl 187) (q_rtt 187) ∈ q_tbl := q_mem_rfl 6 221 rfl rfl
set_option maxRecDepth 100000 in
theorem q_cw188 : Cond.code (q_y 188) (q_b 188) (q_nl 188) (q_rtt 188) ∈ q_tbl := q_mem_rfl 7 5 rfl rfl
set_option maxRecDepth 100000 in
theorem q_cw189 : Cond.code (q_y 189) (q_b 189) (q_nl 189) (q_rtt 189) ∈ q_tbl := q_mem_rfl 7 45 rfl rfl
set_option maxRecDepth 100000 in
theorem q_cw190 : Cond.code (q_y 190) (q_b 190) (q_nl 190) (q_rtt 190) ∈ q_tbl := q_mem_rfl 7 17 rfl rfl
set_option maxRecDepth 100000 in
theorem q_cw191 : Cond.code (q_y 191) (q_b 191) (q_nl 191) (q_rtt 191) ∈ q_tbl := q_mem_rfl 7 9 rfl rfl
set_option maxRecDepth 100000 in
theorem q_cw192 : Cond.code (q_y 192) (q_b 192) (q_nl 192) (q_rtt 192) ∈ q_tbl := q_mem_rfl 7 13 rfl rfl
set_option maxRecDepth 100000 in
theorem q_cw193 : Cond.code (q_y 193) (q_b 193) (q_nl 193) (q_rtt 193) ∈ q_tbl := q_mem_rfl 7 29 rfl rfl
set_option maxRecDepth 100000 in
theorem q_cw194 : Cond.code (q_y 194) (q_b 194) (q_nl 194) (q_rtt 194) ∈ q_tbl := q_mem_rfl 7 25 rfl rfl
set_option maxRecDepth 100000 in
theorem q_cw195 : Cond.code (q_y 195) (q_b 195) (q_nl 195) (q_rtt 195) ∈ q_tbl := q_mem_rfl 7 41 rfl rfl
set_option maxRecDepth 100000 in
theorem q_cw196 : Cond.code (q_y 196) (q_b 196) (q_nl 196) (q_rtt 196) ∈ q_tbl := q_mem_rfl 7 1 rfl rfl
set_option maxRecDepth 100000 in
theorem q_cw197 : Cond.code (q_y 197) (q_b 197) (q_nl 197) (q_rtt 197) ∈ q_tbl := q_mem_rfl 7 21 rfl rfl
set_option maxRecDepth 100000 in
theorem q_cw198 : Cond.code (q_y 198) (q_b 198) (q_nl 198) (q_rtt 198) ∈ q_tbl := q_mem_rfl 6 237 rfl rfl
set_option maxRecDepth 100000 in
theorem q_cw199 : Cond.code (q_y 199) (q_b 199) (q_nl 199) (q_rtt 199) ∈ q_tbl := q_mem_rfl 7 37 rfl rfl
set_option maxRecDepth 100000 in
theorem q_cw200 : Cond.code (q_y 200) (q_b 200) (q_nl 200) (q_rtt 200) ∈ q_tbl := q_mem_rfl 7 33 rfl rfl
set_option maxRecDepth 100000 in
theorem q_cw201 : Cond.code (q_y 201) (q_b 201) (q_nl 201) (q_rtt 201) ∈ q_tbl := q_mem_rfl 6 233 rfl rfl
set_option maxRecDepth 100000 in
theorem q_cw202 : Cond.code (q_y 202) (q_b 202) (q_nl 202) (q_rtt 202) ∈ q_tbl := q_mem_rfl 7 53 rfl rfl
set_option maxRecDepth 100000 in
theorem q_cw203 : Cond.code (q_y 203) (q_b 203) (q_nl 203) (q_rtt 203) ∈ q_tbl := q_mem_rfl 6 225 rfl rfl
set_option maxRecDepth 100000 in
theorem q_cw204 : Cond.code (q_y 204) (q_b 204) (q_nl 204) (q_rtt 204) ∈ q_tbl := q_mem_rfl 7 49 rfl rfl
set_option maxRecDepth 100000 in
theorem q_cw205 : Cond.code (q_y 205) (q_b 205) (q_nl 205) (q_rtt 205) ∈ q_tbl := q_mem_rfl 7 94 rfl rfl
set_option maxRecDepth 100000 in
theorem q_cw206 : Cond.code (q_y 206) (q_b 206) (q_nl 206) (q_rtt 206) ∈ q_tbl := q_mem_rfl 7 84 rfl rfl
set_option maxRecDepth 100000 in
theorem q_cw207 : Cond.code (q_y 207) (q_b 207) (q_nl 207) (q_rtt 207) ∈ q_tbl := q_mem_rfl 7 89 rfl rfl
set_option maxRecDepth 100000 in
theorem q_cw208 : Cond.code (q_y 208) (q_b 208) (q_nl 208) (q_rtt 208) ∈ q_tbl := q_mem_rfl 7 69 rfl rfl
set_option maxRecDepth 100000 in
theorem q_cw209 : Cond.code (q_y 209) (q_b 209) (q_nl 209) (q_rtt 209) ∈ q_tbl := q_mem_rfl 7 81 rfl rfl
set_option maxRecDepth 100000 in
theorem q_cw210 : Cond.code (q_y 210) (q_b 210) (q_nl 210) (q_rtt 210) ∈ q_tbl := q_mem_rfl 7 77 rfl rfl
set_option maxRecDepth 100000 in
theorem q_cw211 : Cond.code (q_y 211) (q_b 211) (q_nl 211) (q_rtt 211) ∈ q_tbl := q_mem_rfl 7 73 rfl rfl
set_option maxRecDepth 100000 in
theorem q_cw212 : Cond.code (q_y 212) (q_b 212) (q_nl 212) (q_rtt 212) ∈ q_tbl := q_mem_rfl 7 65 rfl rfl
set_option maxRecDepth 100000 in
theorem q_cw213 : Cond.code (q_y 213) (q_b 213) (q_nl 213) (q_rtt 213) ∈ q_tbl := q_mem_rfl 7 61 rfl rfl
set_option maxRecDepth 100000 in
theorem q_cw214 : Cond.code (q_y 214) (q_b 214) (q_nl 214) (q_rtt 214) ∈ q_tbl := q_mem_rfl 7 57 rfl rfl
set_option maxRecDepth 100000 in
theorem q_cw215 : Cond.code (q_y 215) (q_b 215) (q_nl 215) (q_rtt 215) ∈ q_tbl := q_mem_rfl 7 110 rfl rfl
set_option maxRecDepth 100000 in
theorem q_cw216 : Cond.code (q_y 216) (q_b 216) (q_nl 216) (q_rtt 216) ∈ q_tbl := q_mem_rfl 7 106 rfl rfl
set_option maxRecDepth 100000 in
theorem q_cw217 : Cond.code (q_y 217) (q_b 217) (q_nl 217) (q_rtt 217) ∈ q_tbl := q_mem_rfl 7 102 rfl rfl
set_option maxRecDepth 100000 in
theorem q_cw218 : Cond.code (q_y 218) (q_b 218) (q_nl 218) (q_rtt 218) ∈ q_tbl := q_mem_rfl 7 119 rfl rfl
set_option maxRecDepth 100000 in
theorem q_cw219 : Cond.code (q_y 219) (q_b 219) (q_nl 219) (q_rtt 219) ∈ q_tbl := q_mem_rfl 7 115 rfl rfl
set_option maxRecDepth 100000 in
theorem q_cw220 : Cond.code (q_y 220) (q_b 220) (q_nl 220) (q_rtt 220) ∈ q_tbl := q_mem_rfl 7 123 rfl rfl
set_option maxRecDepth 100000 in
theorem q_cw221 : Cond.code (q_y 221) (q_b 221) (q_nl 221) (q_rtt 221) ∈ q_tbl := q_mem_rfl 7 131 rfl rfl
set_option maxRecDepth 100000 in
theorem q_cw222 : Cond.code (q_y 222) (q_b 222) (q_nl 222) (q_rtt 222) ∈ q_tbl := q_mem_rfl 7 135 rfl rfl
set_option maxRecDepth 100000 in
theorem q_cw223 : Cond.code (q_y 223) (q_b 223) (q_nl 223) (q_rtt 223) ∈ q_tbl := q_mem_rfl 7 147 rfl rfl
set_option maxRecDepth 100000 in
theorem q_cw224 : Cond.code (q_y 224) (q_b 224) (q_nl 224) (q_rtt 224) ∈ q_tbl := q_mem_rfl 7 143 rfl rfl
set_option maxRecDepth 100000 in
theorem q_cw225 : Cond.code (q_y 225) (q_b 225) (q_nl 225) (q_rtt 225) ∈ q_tbl := q_mem_rfl 7 139 rfl rfl
set_option maxRecDepth 100000 in
theorem q_cw226 : Cond.code (q_y 226) (q_b 226) (q_nl 226) (q_rtt 226) ∈ q_tbl := q_mem_rfl 7 157 rfl rfl
set_option maxRecDepth 100000 in
theorem q_cw227 : Cond.code (q_y 227) (q_b 227) (q_nl 227) (q_rtt 227) ∈ q_tbl := q_mem_rfl 7 154 rfl rfl
set_option maxRecDepth 100000 in
theorem q_cw228 : Cond.code (q_y 228) (q_b 228) (q_nl 228) (q_rtt 228) ∈ q_tbl := q_mem_rfl 7 151 rfl rfl
set_option maxRecDepth 100000 in
theorem q_cw229 : Cond.code (q_y 229) (q_b 229) (q_nl 229) (q_rtt 229) ∈ q_tbl := q_mem_rfl 7 161 rfl rfl
set_option maxRecDepth 100000 in
theorem q_cw230 : Cond.code (q_y 230) (q_b 230) (q_nl 230) (q_rtt 230) ∈ q_tbl := q_mem_rfl 7 165 rfl rfl
set_option maxRecDepth 100000 in
theorem q_cw231 : Cond.code (q_y 231) (q_b 231) (q_nl 231) (q_rtt 231) ∈ q_tbl := q_mem_rfl 7 169 rfl rfl
set_option maxRecDepth 100000 in
theorem q_cw232 : Cond.code (q_y 232) (q_b 232) (q_nl 232) (q_rtt 232) ∈ q_tbl := q_mem_rfl 7 173 rfl rfl
set_option maxRecDepth 100000 in
theorem q_cw233 : Cond.code (q_y 233) (q_b 233) (q_nl 233) (q_rtt 233) ∈ q_tbl := q_mem_rfl 7 177 rfl rfl
set_option maxRecDepth 100000 in
theorem q_cw234 : Cond.code (q_y 234) (q_b 234) (q_nl 234) (q_rtt 234) ∈ q_tbl := q_mem_rfl 7 181 rfl rfl
set_option maxRecDepth 100000 in
theorem q_cw235 : Cond.code (q_y 235) (q_b 235) (q_nl 235) (q_rtt 235) ∈ q_tbl := q_mem_rfl 7 185 rfl rfl
set_option maxRecDepth 100000 in
theorem q_cw236 : Cond.code (q_y 236) (q_b 236) (q_nl 236) (q_rtt 236) ∈ q_tbl := q_mem_rfl 7 197 rfl rfl
set_option maxRecDepth 100000 in
theorem q_cw237 : Cond.code (q_y 237) (q_b 237) (q_nl 237) (q_rtt 237) ∈ q_tbl := q_mem_rfl 7 193 rfl rfl
set_option maxRecDepth 100000 in
theorem q_cw238 : Cond.code (q_y 238) (q_b 238) (q_nl 238) (q_rtt 238) ∈ q_tbl := q_mem_rfl 7 189 rfl rfl
set_option maxRecDepth 100000 in
theorem q_cw239 : Cond.code (q_y 239) (q_b 239) (q_nl 239) (q_rtt 239) ∈ q_tbl := q_mem_rfl 7 201 rfl rfl
set_option maxRecDepth 100000 in
theorem q_cw240 : Cond.code (q_y 240) (q_b 240) (q_nl 240) (q_rtt 240) ∈ q_tbl := q_mem_rfl 7 205 rfl rfl
set_option maxRecDepth 100000 in
theorem q_cw241 : Cond.code (q_y 241) (q_b 241) (q_nl 241) (q_rtt 241) ∈ q_tbl := q_mem_rfl 7 209 rfl rfl
set_option maxRecDepth 100000 in
theorem q_cw242 : Cond.code (q_y 242) (q_b 242) (q_nl 242) (q_rtt 242) ∈ q_tbl := q_mem_rfl 7 213 rfl rfl
set_option maxRecDepth 100000 in
theorem q_cw243 : Cond.code (q_y 243) (q_b 243) (q_nl 243) (q_rtt 243) ∈ q_tbl := q_mem_rfl 7 221 rfl rfl
set_option maxRecDepth 100000 in
theorem q_cw244 : Cond.code (q_y 244) (q_b 244) (q_nl 244) (q_rtt 244) ∈ q_tbl := q_mem_rfl 7 217 rfl rfl
set_option maxRecDepth 100000 in
theorem q_cw245 : Cond.code (q_y 245) (q_b 245) (q_nl 245) (q_rtt 245) ∈ q_tbl := q_mem_rfl 7 225 rfl rfl
set_option maxRecDepth 100000 in
theorem q_cw246 : Cond.code (q_y 246) (q_b 246) (q_nl 246) (q_rtt 246) ∈ q_tbl := q_mem_rfl 7 234 rfl rfl
set_option maxRecDepth 100000 in
theorem q_cw247 : Cond.code (q_y 247) (q_b 247) (q_nl 247) (q_rtt 247) ∈ q_tbl := q_mem_rfl 7 230 rfl rfl
set_option maxRecDepth 100000 in
theorem q_cw248 : Cond.code (q_y 248) (q_b 248) (q_nl 248) (q_rtt 248) ∈ q_tbl := q_mem_rfl 7 238 rfl rfl
set_option maxRecDepth 100000 in
theorem q_cw249 : Cond.code (q_y 249) (q_b 249) (q_nl 249) (q_rtt 249) ∈ q_tbl := q_mem_rfl 8 6 rfl rfl
set_option maxRecDepth 100000 in
theorem q_cw250 : Cond.code (q_y 250) (q_b 250) (q_nl 250) (q_rtt 250) ∈ q_tbl := q_mem_rfl 8 9 rfl rfl
set_option maxRecDepth 100000 in
theorem q_cw251 : Cond.code (q_y 251) (q_b 251) (q_nl 251) (q_rtt 251) ∈ q_tbl := q_mem_rfl 8 2 rfl rfl
set_option maxRecDepth 100000 in
theorem q_cw252 : Cond.code (q_y 252) (q_b 252) (q_nl 252) (q_rtt 252) ∈ q_tbl := q_mem_rfl 8 13 rfl rfl
set_option maxRecDepth 100000 in
theorem q_cw253 : Cond.code (q_y 253) (q_b 253) (q_nl 253) (q_rtt 253) ∈ q_tbl := q_mem_rfl 8 21 rfl rfl
set_option maxRecDepth 100000 in
theorem q_cw254 : Cond.code (q_y 254) (q_b 254) (q_nl 254) (q_rtt 254) ∈ q_tbl := q_mem_rfl 8 17 rfl rfl
set_option maxRecDepth 100000 in
theorem q_cw255 : Cond.code (q_y 255) (q_b 255) (q_nl 255) (q_rtt 255) ∈ q_tbl := q_mem_rfl 4 28 rfl rfl
set_option maxRecDepth 100000 in
theorem q_cw256 : Cond.code (q_y 256) (q_b 256) (q_nl 256) (q_rtt 256) ∈ q_tbl := q_mem_rfl 4 6 rfl rfl
set_option maxRecDepth 100000 in
theorem q_cw257 : Cond.code (q_y 257) (q_b 257) (q_nl 257) (q_rtt 257) ∈ q_tbl := q_mem_rfl 4 229 rfl rfl
set_option maxRecDepth 100000 in
theorem q_cw258 : Cond.code (q_y 258) (q_b 258) (q_nl 258) (q_rtt 258) ∈ q_tbl := q_mem_rfl 2 136 rfl rfl
set_option maxRecDepth 100000 in
theorem q_cw259 : Cond.code (q_y 259) (q_b 259) (q_nl 259) (q_rtt 259) ∈ q_tbl := q_mem_rfl 4 34 rfl rfl
set_option maxRecDepth 100000 in
theorem q_cw260 : Cond.code (q_y 260) (q_b 260) (q_nl 260) (q_rtt 260) ∈ q_tbl := q_mem_rfl 2 35 rfl rfl
set_option maxRecDepth 100000 in
theorem q_cw261 : Cond.code (q_y 261) (q_b 261) (q_nl 261) (q_rtt 261) ∈ q_tbl := q_mem_rfl 4 31 rfl rfl
set_option maxRecDepth 100000 in
theorem q_cw262 : Cond.code (q_y 262) (q_b 262) (q_nl 262) (q_rtt 262) ∈ q_tbl := q_mem_rfl 3 215 rfl rfl
set_option maxRecDepth 100000 in
theorem q_cw263 : Cond.code (q_y 263) (q_b 263) (q_nl 263) (q_rtt 263) ∈ q_tbl := q_mem_rfl 2 25 rfl rfl
set_option maxRecDepth 100000 in
theorem q_cwA : ∀ y, y < 264 → Cond.code (q_y y) (q_b y) (q_nl y) (q_rtt y) ∈ q_tbl := lt_s (lt_s (lt_s (lt_s (lt_s (lt_s (lt_s (lt_s (lt_s (lt_s (lt_s (lt_s (lt_s (lt_s (lt_s (lt_s (lt_s (lt_s (lt_s (lt_s (lt_s (lt_s (lt_s (lt_s (lt_s (lt_s (lt_s (lt_s (lt_s (lt_s (lt_s (lt_s (lt_s (lt_s (lt_s (lt_s (lt_s (lt_s (lt_s (lt_s (lt_s (lt_s (lt_s (lt_s (lt_s (lt_s (lt_s (lt_s (lt_s (lt_s (lt_s (lt_s (lt_s (lt_s (lt_s (lt_s (lt_s (lt_s (lt_s (lt_s (lt_s (lt_s (lt_s (lt_s (lt_s (lt_s (lt_s (lt_s (lt_s (lt_s (lt_s (lt_s (lt_s (lt_s (lt_s (lt_s (lt_s (lt_s (lt_s (lt_s (lt_s (lt_s (lt_s (lt_s (lt_s (lt_s (lt_s (lt_s (lt_s (lt_s (lt_s (lt_s (lt_s (lt_s (lt_s (lt_s (lt_s (lt_s (lt_s (lt_s (lt_s (lt_s (lt_s (lt_s (lt_s (lt_s (lt_s (lt_s (lt_s (lt_s (lt_s (lt_s (lt_s (lt_s (lt_s (lt_s (lt_s (lt_s (lt_s (lt_s (lt_s (lt_s (lt_s (lt_s (lt_s (lt_s (lt_s (lt_s (lt_s (lt_s (lt_s (lt_s (lt_s (lt_s (lt_s (lt_s (lt_s (lt_s (lt_s (lt_s (lt_s (lt_s (lt_s (lt_s (lt_s (lt_s (lt_s (lt_s (lt_s (lt_s (lt_s (lt_s (lt_s (lt_s (lt_s (lt_s (lt_s (lt_s (lt_s (lt_s (lt_s (lt_s (lt_s (lt_s (lt_s (lt_s (lt_s (lt_s (lt_s (lt_s (lt_s (lt_s (lt_s (lt_s (lt_s (lt_s (lt_s (lt_s (lt_s (lt_s (lt_s (lt_s (lt_s (lt_s (lt_s (lt_s (lt_s (lt_s (lt_s (lt_s (lt_s (lt_s (lt_s (lt_s (lt_s (lt_s (lt_s (lt_s (lt_s (lt_s (lt_s (lt_s (lt_s (lt_s (lt_s (lt_s (lt_s (lt_s (lt_s (lt_s (lt_s (lt_s (lt_s (lt_s (lt_s (lt_s (lt_s (lt_s (lt_s (lt_s (lt_s (lt_s (lt_s (lt_s (lt_s (lt_s (lt_s (lt_s (lt_s (lt_s (lt_s (lt_s (lt_s (lt_s (lt_s (lt_s (lt_s (lt_s (lt_s (lt_s (lt_s (lt_s (lt_s (lt_s (lt_s (lt_s (lt_s (lt_s (lt_s (lt_s (lt_s (lt_s (lt_s (lt_s (lt_s (lt_s (lt_s (lt_s (lt_s (lt_s (lt_s (lt_s (lt_s (lt_s (lt_0) q_cw0) q_cw1) q_cw2) q_cw3) q_cw4) q_cw5) q_cw6) q_cw7) q_cw8) q_cw9) q_cw10) q_cw11) q_cw12) q_cw13) q_cw14) q_cw15) q_cw16) q_cw17) q_cw18) q_cw19) q_cw20) q_cw21) q_cw22) q_cw23) q_cw24) q_cw25) q_cw26) q_cw27) q_cw28) q_cw29) q_cw30) q_cw31) q_cw32) q_cw33) q_cw34) q_cw35) q_cw36) q_cw37) q_cw38) q_cw39) q_cw40) q_cw41) q_cw42) q_cw43) q_cw44) q_cw45) q_cw46) q_cw47) q_cw48) q_cw49) q_cw50) q_cw51) q_cw52) q_cw53) q_cw54) q_cw55) q_cw56) q_cw57) q_cw58) q_cw59) q_cw60) q_cw61) q_cw62) q_cw63) q_cw64) q_cw65) q_cw66) q_cw67) q_cw68) q_cw69) q_cw70) q_cw71) q_cw72) q_cw73) q_cw74) q_cw75) q_cw76) q_cw77) q_cw78) q_cw79) q_cw80) q_cw81) q_cw82) q_cw83) q_cw84) q_cw85) q_cw86) q_cw87) q_cw88) q_cw89) q_cw90) q_cw91) q_cw92) q_cw93) q_cw94) q_cw95) q_cw96) q_cw97) q_cw98) q_cw99) q_cw100) q_cw101) q_cw102) q_cw103) q_cw104) q_cw105) q_cw106) q_cw107) q_cw108) q_cw109) q_cw110) q_cw111) q_cw112) q_cw113) q_cw114) q_cw115) q_cw116) q_cw117) q_cw118) q_cw119) q_cw120) q_cw121) q_cw122) q_cw123) q_cw124) q_cw125) q_cw126) q_cw127) q_cw128) q_cw129) q_cw130) q_cw131) q_cw132) q_cw133) q_cw134) q_cw135) q_cw136) q_cw137) q_cw138) q_cw139) q_cw140) q_cw141) q_cw142) q_cw143) q_cw144) q_cw145) q_cw146) q_cw147) q_cw148) q_cw149) q_cw150) q_cw151) q_cw152) q_cw153) q_cw154) q_cw155) q_cw156) q_cw157) q_cw158) q_cw159) q_cw160) q_cw161) q_cw162) q_cw163) q_cw164) q_cw165) q_cw166) q_cw167) q_cw168) q_cw169) q_cw170) q_cw171) q_cw172) q_cw173) q_cw174) q_cw175) q_cw176) q_cw177) q_cw178) q_cw179) q_cw180) q_cw181) q_cw182) q_cw183) q_cw184) q_cw185) q_cw186) q_cw187) q_cw188) q_cw189) q_cw190) q_cw191) q_cw192) q_cw193) q_cw194) q_cw195) q_cw196) q_cw197) q_cw198) q_cw199) q_cw200) q_cw201) q_cw202) q_cw203) q_cw204) q_cw205) q_cw206) q_cw207) q_cw208) q_cw209) q_cw210) q_cw211) q_cw212) q_cw213) q_cw214) q_cw215) q_cw216) q_cw217) q_cw218) q_cw219) q_cw220) q_cw221) q_cw222) q_cw223) q_cw224) q_cw225) q_cw226) q_cw227) q_cw228) q_cw229) q_cw230) q_cw231) q_cw232) q_cw233) q_cw234) q_cw235) q_cw236) q_cw237) q_cw238) q_cw239) q_cw240) q_cw241) q_cw242) q_cw243) q_cw244) q_cw245) q_cw246) q_cw247) q_cw248) q_cw249) q_cw250) q_cw251) q_cw252) q_cw253) q_cw254) q_cw255) q_cw256) q_cw257) q_cw258) q_cw259) q_cw260) q_cw261) q_cw262) q_cw263
end
