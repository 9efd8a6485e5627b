section
def q_i32 (x : Int) : Prop := -2147483648 ≤ x ∧ x ≤ 2147483647
def q_i64 (x : Int) : Prop := -9223372036854775808 ≤ x ∧ x ≤ 9223372036854775807
theorem q_w32r (x : Int) : q_i32 (w32 x) := by unfold q_i32 w32; omega
theorem q_w64r (x : Int) : q_i64 (w64 x) := by unfold q_i64 w64; omega
theorem q_w32i {x : Int} (h : q_i32 x) : w32 x = x := by unfold q_i32 at h; unfold w32; omega
theorem q_w64i {x : Int} (h : q_i64 x) : w64 x = x := by unfold q_i64 at h; unfold w64; omega
theorem q_o32 (x : Int) : (Int32.ofInt x).toInt = w32 x := by
  rw [Int32.toInt_ofInt]
  unfold w32
  simp only [Int.bmod, Int32.size]
  omega
theorem q_o64 (x : Int) : (Int64.ofInt x).toInt = w64 x := by
  rw [Int64.toInt_ofInt]
  unfold w64
  simp only [Int.bmod, Int64.size]
  omega
theorem q_t32 {x : Int} (h : q_i32 x) : (Int32.ofInt x).toInt = x := by rw [q_o32, q_w32i h]
theorem q_t64 {x : Int} (h : q_i64 x) : (Int64.ofInt x).toInt = x := by rw [q_o64, q_w64i h]
theorem q_ow32 (x : Int) : Int32.ofInt (w32 x) = Int32.ofInt x := Int32.toInt_inj.mp (by rw [q_t32 (q_w32r x), q_o32])
theorem q_ow64 (x : Int) : Int64.ofInt (w64 x) = Int64.ofInt x := Int64.toInt_inj.mp (by rw [q_t64 (q_w64r x), q_o64])
theorem q_r32 (x : Int32) : q_i32 x.toInt := ⟨x.le_toInt, Int.le_of_lt_add_one x.toInt_lt⟩
theorem q_r64 (x : Int64) : q_i64 x.toInt := ⟨x.le_toInt, Int.le_of_lt_add_one x.toInt_lt⟩
theorem q_add32 (x y : Int) : Int32.ofInt (w32 (x + y)) = Int32.ofInt x + Int32.ofInt y := by rw [q_ow32, Int32.ofInt_add]
theorem q_sub32 (x y : Int) : Int32.ofInt (w32 (x - y)) = Int32.ofInt x - Int32.ofInt y := by rw [q_ow32, Int32.ofInt_sub]
theorem q_mul32 (x y : Int) : Int32.ofInt (w32 (x * y)) = Int32.ofInt x * Int32.ofInt y := by rw [q_ow32, Int32.ofInt_mul]
theorem q_neg32 (x : Int) : Int32.ofInt (w32 (-x)) = -Int32.ofInt x := by rw [q_ow32, Int32.neg_ofInt]
theorem q_add64 (x y : Int) : Int64.ofInt (w64 (x + y)) = Int64.ofInt x + Int64.ofInt y := by rw [q_ow64, Int64.ofInt_add]
theorem q_sub64 (x y : Int) : Int64.ofInt (w64 (x - y)) = Int64.ofInt x - Int64.ofInt y := by rw [q_ow64, Int64.ofInt_sub]
theorem q_mul64 (x y : Int) : Int64.ofInt (w64 (x * y)) = Int64.ofInt x * Int64.ofInt y := by rw [q_ow64, Int64.ofInt_mul]
theorem q_neg64 (x : Int) : Int64.ofInt (w64 (-x)) = -Int64.ofInt x := by rw [q_ow64, Int64.neg_ofInt]
theorem q_div32 {x y : Int} (hx : q_i32 x) (hy : q_i32 y) : Int32.ofInt (w32 (x.tdiv y)) = Int32.ofInt x / Int32.ofInt y := by
  apply Int32.toInt_inj.mp
  rw [q_ow32, Int32.toInt_div, q_t32 hx, q_t32 hy, Int32.toInt_ofInt]
theorem q_div64 {x y : Int} (hx : q_i64 x) (hy : q_i64 y) : Int64.ofInt (w64 (x.tdiv y)) = Int64.ofInt x / Int64.ofInt y := by
  apply Int64.toInt_inj.mp
  rw [q_ow64, Int64.toInt_div, q_t64 hx, q_t64 hy, Int64.toInt_ofInt]
theorem q_rem32 {x y : Int} (hx : q_i32 x) (hy : q_i32 y) : Int32.ofInt (x.tmod y) = Int32.ofInt x - Int32.ofInt x / Int32.ofInt y * Int32.ofInt y := by
  rw [← q_div32 hx hy, q_ow32, ← Int32.ofInt_mul, ← Int32.ofInt_sub]
  congr 1
  have := Int.mul_tdiv_add_tmod x y
  rw [Int.mul_comm] at this
  omega
theorem q_rem64 {x y : Int} (hx : q_i64 x) (hy : q_i64 y) : Int64.ofInt (x.tmod y) = Int64.ofInt x - Int64.ofInt x / Int64.ofInt y * Int64.ofInt y := by
  rw [← q_div64 hx hy, q_ow64, ← Int64.ofInt_mul, ← Int64.ofInt_sub]
  congr 1
  have := Int.mul_tdiv_add_tmod x y
  rw [Int.mul_comm] at this
  omega
theorem q_tmodr {x y : Int} {B : Nat} (h1 : -(B : Int) ≤ x) (h2 : x < B) : -(B : Int) ≤ x.tmod y ∧ x.tmod y < B := by
  have h := Int.natAbs_tmod x y
  have h3 : x.natAbs % y.natAbs ≤ x.natAbs := Nat.mod_le _ _
  rcases Int.le_total 0 x with hx | hx
  · have := Int.tmod_nonneg y hx
    omega
  · have h5 : x.tmod y ≤ 0 := by
      have h6 := Int.tmod_nonneg y (show 0 ≤ -x by omega)
      rw [Int.neg_tmod] at h6
      omega
    omega
theorem q_rem32r {x y : Int} (hx : q_i32 x) : q_i32 (x.tmod y) := by
  have := q_tmodr (B := 2147483648) (y := y) hx.1 (by have := hx.2; omega)
  unfold q_i32
  omega
theorem q_rem64r {x y : Int} (hx : q_i64 x) : q_i64 (x.tmod y) := by
  have := q_tmodr (B := 9223372036854775808) (y := y) hx.1 (by have := hx.2; omega)
  unfold q_i64
  omega
theorem q_i2l {x : Int} (h : q_i32 x) : (Int32.ofInt x).toInt64 = Int64.ofInt x := by
  apply Int64.toInt_inj.mp
  rw [Int32.toInt_toInt64, q_t32 h, q_t64]
  unfold q_i32 at h
  unfold q_i64
  omega
theorem q_l2i (x : Int) : (Int64.ofInt x).toInt32 = Int32.ofInt (w32 x) := by rw [q_ow32, Int64.toInt32_ofInt]
theorem q_i2b (x : Int) : (Int32.ofInt x).toInt8.toInt32 = Int32.ofInt (w8 x) := by
  apply Int32.toInt_inj.mp
  rw [Int32.toInt8_ofInt, Int8.toInt_toInt32, Int8.toInt_ofInt, q_t32]
  · unfold w8
    simp only [Int.bmod, Int8.size]
    omega
  · unfold q_i32 w8
    omega
theorem q_lt32 {x y : Int} (hx : q_i32 x) (hy : q_i32 y) : Int32.ofInt x < Int32.ofInt y ↔ x < y := by rw [Int32.lt_iff_toInt_lt, q_t32 hx, q_t32 hy]
theorem q_le32 {x y : Int} (hx : q_i32 x) (hy : q_i32 y) : Int32.ofInt x ≤ Int32.ofInt y ↔ x ≤ y := by rw [Int32.le_iff_toInt_le, q_t32 hx, q_t32 hy]
theorem q_eq32 {x y : Int} (hx : q_i32 x) (hy : q_i32 y) : Int32.ofInt x = Int32.ofInt y ↔ x = y := by rw [← Int32.toInt_inj, q_t32 hx, q_t32 hy]
theorem q_lt64 {x y : Int} (hx : q_i64 x) (hy : q_i64 y) : Int64.ofInt x < Int64.ofInt y ↔ x < y := by rw [Int64.lt_iff_toInt_lt, q_t64 hx, q_t64 hy]
theorem q_eq64 {x y : Int} (hx : q_i64 x) (hy : q_i64 y) : Int64.ofInt x = Int64.ofInt y ↔ x = y := by rw [← Int64.toInt_inj, q_t64 hx, q_t64 hy]
theorem q_nc32 {x : Int} (h0 : 0 ≤ x) (h : q_i32 x) : (Int32.ofInt x).toNatClampNeg = x.toNat := by
  show (Int32.ofInt x).toInt.toNat = x.toNat
  rw [q_t32 h]
theorem q_lcmp {x y : Int} (hx : q_i64 x) (hy : q_i64 y) : lg_cmp (Int64.ofInt x) (Int64.ofInt y) = Int32.ofInt (q_lc x y) := by
  unfold lg_cmp q_lc
  simp only [q_lt64 hx hy, q_eq64 hx hy, q_lt64 hy hx]
  split <;> split <;> first | rfl | (split <;> first | rfl | omega) | omega
theorem q_lcr (x y : Int) : q_i32 (q_lc x y) := by
  unfold q_lc q_i32
  split
  · omega
  · split <;> omega
theorem q_bi {v : Int} (h : -128 ≤ v ∧ v < 128) : (Int8.ofInt v).toInt32 = Int32.ofInt v := by
  apply Int32.toInt_inj.mp
  rw [Int8.toInt_toInt32, Int8.toInt_ofInt, q_t32]
  · simp only [Int.bmod, Int8.size]
    omega
  · unfold q_i32
    omega
theorem q_si {v : Int} (h : -32768 ≤ v ∧ v < 32768) : (Int16.ofInt v).toInt32 = Int32.ofInt v := by
  apply Int32.toInt_inj.mp
  rw [Int16.toInt_toInt32, Int16.toInt_ofInt, q_t32]
  · simp only [Int.bmod, Int16.size]
    omega
  · unfold q_i32
    omega
end
