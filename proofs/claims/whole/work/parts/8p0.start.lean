section
def f0N : List (Int × Int × Int) := [(1, 1, 0), (3, 9, 0), (0, 3, 0), (0, 7, 0), (0, 8, -1), (19, 1, 0), (21, 2, 0), (64, 1, 0), (66, 1, 0), (66, 33, 0), (66, 40, 0), (66, 56, -1), (66, 67, 0), (100, 0, 0), (100, 1, 0), (100, 2, 0), (100, 3, 0), (100, 4, 0), (66, 7, 0), (66, 8, -1), (66, 71, 0), (66, 73, 0), (66, 81, 0)]
set_option maxRecDepth 100000 in
theorem f0N_ok : (f0N.all fun e => decide (e.1 ≠ -3) && decide (q_rN 0 q_oAll e.1 e.2.1 0 = e.2.2)) = true := by decide +kernel
set_option maxRecDepth 100000 in
theorem f0P_ok : ((List.range 17).all fun i => decide (q_rN 0 q_oAll 12 (i : Int) 0 = w64 (37 ^ i))) = true := by decide +kernel
set_option maxRecDepth 100000 in
theorem f0R_ok : ((List.range 5).all fun i => decide (q_rR 0 q_oAll 14 (i : Int) (-1) = -1)) = true := by decide +kernel
theorem M0_nm {L : Nat} {xs : Nat → Int32} {a j : Int} (h : a ≠ -3) : q_nm (q_M0 L xs) a j = 0 := if_neg h
theorem f0 {L : Nat} {xs : Nat → Int32} {a j v : Int} (h : (a, j, v) ∈ f0N) : q_nm (q_run q_oAll (q_M0 L xs)) a j = v := by
  have q := List.all_eq_true.mp f0N_ok _ h
  rw [Bool.and_eq_true, decide_eq_true_eq, decide_eq_true_eq] at q
  have k := q_run_nm q_oAll (q_M0 L xs) 0 a j 0 rfl (M0_nm q.1)
  rw [k]; exact q.2
def W0 : qW := ([], (0, fun _ => [], fun _ => 0, fun _ => 0, fun _ => 0), (0, fun _ => []), fun _ => none, (0, -1), [], (0, fun _ => 0, fun _ => []), [])
theorem h0_G : WG W0 := ⟨⟨by decide, fun b hb => absurd hb List.not_mem_nil⟩, ⟨⟨by decide, by decide⟩, fun w a b => absurd (Int.lt_of_le_of_lt a b) (by decide), fun w v a b => absurd (Int.lt_of_le_of_lt a b) (by decide)⟩, ⟨⟨by decide, by decide⟩, fun r a b => absurd (Int.lt_of_le_of_lt a b) (by decide)⟩, ⟨by decide, fun b hb => absurd hb List.not_mem_nil⟩, ⟨⟨by decide, by decide⟩, fun r a b => absurd (Int.lt_of_le_of_lt a b) (by decide)⟩, by show (0 : Nat) ≤ 2042; decide⟩
theorem h0_C {L : Nat} {xs : Nat → Int32} : WC W0 (q_run q_oAll (q_M0 L xs)) := by
  refine ⟨⟨f0 (by decide), fun i hi => absurd hi (Nat.not_lt_zero i)⟩, ⟨⟨f0 (by decide), fun i hi => ?_⟩, fun w a b => absurd (Int.lt_of_le_of_lt a b) (by decide)⟩, ⟨f0 (by decide), fun r a b => absurd (Int.lt_of_le_of_lt a b) (by decide), fun r r' a b c => absurd (show (0 : Int) < 0 from Int.lt_of_le_of_lt a (Int.lt_trans b c)) (by decide), fun r k a b => absurd (Int.lt_of_le_of_lt a b) (by decide)⟩, fun k a b => ⟨?_, fun q => absurd rfl q⟩, ⟨f0 (by decide), f0 (by decide)⟩, ⟨f0 (by decide), q_L_nil⟩, ⟨f0 (by decide), fun i a b => absurd (Int.lt_of_le_of_lt a b) (by decide)⟩, ⟨f0 (by decide), fun i hi => absurd hi (Nat.not_lt_zero i)⟩⟩
  · have q := List.all_eq_true.mp f0P_ok i (List.mem_range.mpr (by omega))
    rw [decide_eq_true_eq] at q
    rw [q_run_nm q_oAll (q_M0 L xs) 0 12 i 0 rfl (M0_nm (by decide))]; exact q
  · have q := List.all_eq_true.mp f0R_ok k.toNat (List.mem_range.mpr (by omega))
    rw [decide_eq_true_eq, show ((k.toNat : Nat) : Int) = k by omega] at q
    show q_rf (q_run q_oAll (q_M0 L xs)) 14 k = -1
    rw [q_run_rf q_oAll (q_M0 L xs) 0 14 k (-1) rfl rfl]; exact q
theorem h0_R {L : Nat} {xs : Nat → Int32} : WR W0 (q_run q_oAll (q_M0 L xs)) := by
  refine ⟨⟨f0 (by decide), q_L_nil⟩, ⟨f0 (by decide), fun w a b => absurd (Int.lt_of_le_of_lt a b) (by decide)⟩, ⟨f0 (by decide), fun r a b => absurd (Int.lt_of_le_of_lt a b) (by decide), ?_⟩, fun k a b => ?_, ⟨f0 (by decide), f0 (by decide)⟩, ⟨f0 (by decide), q_L_nil⟩, ⟨f0 (by decide), fun i a b => absurd (Int.lt_of_le_of_lt a b) (by decide)⟩, ⟨f0 (by decide), q_L_nil⟩⟩
  · unfold R_Y
    rw [f0 (a := 66) (j := 56) (v := -1) (by decide), f0 (a := 66) (j := 67) (v := 0) (by decide)]
    exact ⟨⟨by decide, by show (-1 : Int) < 0; decide, by show (0 : Int) ≤ 0; decide⟩, fun q => absurd q (by decide)⟩
  · have c : k = 0 ∨ k = 1 ∨ k = 2 ∨ k = 3 ∨ k = 4 := by omega
    show q_nm (q_run q_oAll (q_M0 L xs)) 100 k = 0
    rcases c with e | e | e | e | e <;> rw [e] <;> exact f0 (by decide)
set_option maxRecDepth 100000 in
theorem f0L_ok : ((List.range 24).all fun n => (List.range (owl.getD n []).length).all fun i => decide (q_rN 0 q_oAll (68 + (n : Int)) (i : Int) 0 = (owl.getD n []).getD i 0)) = true := by decide +kernel
theorem h0_L {L : Nat} {xs : Nat → Int32} : LT (q_run q_oAll (q_M0 L xs)) := fun n hn i hi => by
  have q := List.all_eq_true.mp (List.all_eq_true.mp f0L_ok n (List.mem_range.mpr hn)) i (List.mem_range.mpr hi)
  rw [decide_eq_true_eq] at q
  rw [Int.zero_add, q_run_nm q_oAll (q_M0 L xs) 0 (68 + (n : Int)) i 0 rfl (M0_nm (by omega))]; exact q
theorem h0_all {L : Nat} {xs : Nat → Int32} : INV L (fun j => (xs j.toNat).toInt) (q_run q_oAll (q_M0 L xs)) := ⟨W0, q_scr0, q_lay0, h0_G, h0_C, h0_R, h0_L⟩
theorem hI_all {L : Nat} {X : Int → Int} : ∀ M, INV L X M → q_scr L X M ∧ q_kd M 0 = 10 := fun M ⟨_, s, l, _⟩ => ⟨s, lk0 l⟩
end
