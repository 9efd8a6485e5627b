section
theorem q_and255 (x : Int) : q_and x 255 = x % 256 := by
  have h : (Int32.ofInt x &&& Int32.ofInt 255) = Int32.ofInt (x % 256) := by
    apply Int32.toBitVec_inj.mp
    rw [Int32.toBitVec_and, Int32.toBitVec_ofInt, Int32.toBitVec_ofInt, Int32.toBitVec_ofInt]
    apply BitVec.eq_of_toNat_eq
    rw [BitVec.toNat_and, BitVec.toNat_ofInt, BitVec.toNat_ofInt, BitVec.toNat_ofInt]
    have e : ((255 : Int) % (2 ^ 32 : Nat)).toNat = 2 ^ 8 - 1 := by decide
    rw [e, Nat.and_two_pow_sub_one_eq_mod]
    omega
  unfold q_and
  rw [h, q_t32 (by unfold q_i32; omega)]
theorem q_and_w8 (y : Int) : q_and (w8 y) 255 = q_and y 255 := by
  rw [q_and255, q_and255]; unfold w8; omega
theorem q_and_rng (y : Int) : 0 ≤ q_and y 255 ∧ q_and y 255 ≤ 255 := by
  rw [q_and255]; omega
theorem w8_w8 (y : Int) : w8 (w8 y) = w8 y := by unfold w8; omega
/-- a byte comes behind the tape -/
def q_pb (M : qM) (n y : Int) : qM := q_wn (q_wn M 2 n y) 1 1 (n + 1)
theorem q_pb_nm (M : qM) (n y a j : Int) : q_nm (q_pb M n y) a j = if a = 1 ∧ j = 1 then n + 1 else if a = 2 ∧ j = n then y else q_nm M a j := by
  unfold q_pb
  rw [q_wn_nm, q_wn_nm]
theorem c_65s {d : Nat} {P : Int → qM → Prop} {M : qM} {x s n : Int} {c t : Nat} (hl : q_lay M) (hn : q_nm M 1 1 = n) (h0 : 0 ≤ n) (h1 : n < 2100) (hs : 0 ≤ s ∧ s ≤ 24) (k : q_At q_m65 (q_WP q_Pr d) P 3 [(0, .inr (.inr 1)), (1, .inl x), (2, .inl (s - 8))] [] (q_pb M n (w8 (q_shr x s))) c t) : q_At q_m65 (q_WP q_Pr d) P 3 [(0, .inr (.inr 1)), (1, .inl x), (2, .inl s)] [] M c t := by
  refine s_65_3 ?_
  rw [lr1_0 hl, hn, lk2 hl]
  have e1 : q_bs 12 (w8 (q_shr x s)) = w8 (q_shr x s) := by
    unfold q_bs
    rw [if_neg (by decide)]
    exact w8_w8 _
  have e2 : w32 (s + -8) = s - 8 := by rw [w32_id (by omega) (by omega)]; omega
  rw [e1, e2]
  refine ⟨fun g => absurd g (by omega), fun _ => ⟨lk1 hl, fun g => absurd g (by omega), fun _ => ⟨lk1 hl, lk1 hl, ⟨Or.inl rfl, h0, by rw [ll2 hl]; omega⟩, lk1 hl, lk1 hl, ?_⟩⟩⟩
  have e3 : w32 (q_nm (q_wn M 2 n (w8 (q_shr x s))) 1 1 + 1) = n + 1 := by
    rw [q_wn_nm, if_neg (by omega), hn]
    exact w32_id (by omega) (by omega)
  rw [e3]
  exact k
theorem c_65 {d : Nat} {P : Int → qM → Prop} {M : qM} {x n : Int} (hl : q_lay M) (hn : q_nm M 1 1 = n) (h0 : 0 ≤ n) (h1 : n + 4 ≤ 2100) (hP : P 0 (q_pb (q_pb (q_pb (q_pb M n (w8 (q_shr x 24))) (n + 1) (w8 (q_shr x 16))) (n + 1 + 1) (w8 (q_shr x 8))) (n + 1 + 1 + 1) (w8 (q_shr x 0)))) : q_WP q_Pr (d + 1) 65 [.inr (.inr 1), .inl x] M P := by
  refine q_enter (s_65_0 ?_)
  refine c_65s hl hn h0 (by omega) ⟨by decide, by decide⟩ ?_
  refine c_65s (s := 16) (n := n + 1) hl (by rw [q_pb_nm, if_pos ⟨rfl, rfl⟩]) (by omega) (by omega) ⟨by decide, by decide⟩ ?_
  refine c_65s (s := 8) (n := n + 1 + 1) hl (by rw [q_pb_nm, if_pos ⟨rfl, rfl⟩]) (by omega) (by omega) ⟨by decide, by decide⟩ ?_
  refine c_65s (s := 0) (n := n + 1 + 1 + 1) hl (by rw [q_pb_nm, if_pos ⟨rfl, rfl⟩]) (by omega) (by omega) ⟨by decide, by decide⟩ ?_
  exact s_65_3 ⟨fun _ => hP, fun g => absurd g (by decide)⟩
end
