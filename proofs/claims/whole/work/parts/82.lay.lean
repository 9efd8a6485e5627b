section
def q_sK : List (Int × Int × Int) := [(0, 10, 12), (1, 7, 2), (2, 12, 2100), (3, 9, 10), (4, 12, 240), (5, 14, 30), (6, 14, 30), (7, 14, 30), (8, 14, 30), (9, 14, 30), (10, 15, 30), (11, 15, 30), (12, 15, 17), (13, 17, 12), (14, 18, 5), (15, 0, 2), (16, 14, 8), (17, 14, 128), (18, 14, 1024), (19, 6, 2), (20, 12, 100), (21, 2, 3), (22, 14, 20), (23, 19, 20), (24, 6, 2), (25, 12, 100), (26, 6, 2), (27, 12, 100), (28, 6, 2), (29, 12, 100), (30, 6, 2), (31, 12, 100), (32, 6, 2), (33, 12, 100), (34, 6, 2), (35, 12, 100), (36, 6, 2), (37, 12, 100), (38, 6, 2), (39, 12, 100), (40, 6, 2), (41, 12, 100), (42, 6, 2), (43, 12, 100), (44, 6, 2), (45, 12, 100), (46, 6, 2), (47, 12, 100), (48, 6, 2), (49, 12, 100), (50, 6, 2), (51, 12, 100), (52, 6, 2), (53, 12, 100), (54, 6, 2), (55, 12, 100), (56, 6, 2), (57, 12, 100), (58, 6, 2), (59, 12, 100), (60, 6, 2), (61, 12, 100), (62, 6, 2), (63, 12, 100), (64, 3, 2), (65, 12, 2042), (66, 11, 82), (67, 14, 2100), (68, 13, 4), (69, 13, 5), (70, 13, 4), (71, 13, 4), (72, 13, 5), (73, 13, 5), (74, 13, 4), (75, 13, 5), (76, 13, 4), (77, 13, 4), (78, 13, 2), (79, 13, 3), (80, 13, 3), (81, 13, 3), (82, 13, 4), (83, 13, 3), (84, 13, 5), (85, 13, 5), (86, 13, 5), (87, 13, 3), (88, 13, 4), (89, 13, 3), (90, 13, 3), (91, 13, 3), (92, 14, 240), (93, 14, 30), (94, 14, 30), (95, 14, 30), (96, 14, 30), (97, 14, 30), (98, 14, 12), (99, 14, 72), (100, 16, 6), (101, 14, 6), (102, 14, 120), (103, 14, 120), (104, 14, 120), (105, 14, 120), (106, 14, 12600), (107, 14, 2200), (108, 14, 640), (109, 14, 640), (110, 14, 640), (111, 14, 66560), (112, 14, 640), (113, 14, 640), (114, 14, 640), (115, 16, 640), (116, 14, 16), (117, 15, 2200), (118, 14, 640), (119, 14, 104), (120, 14, 20), (121, 14, 20), (122, 14, 2080), (123, 14, 640), (124, 16, 640), (125, 14, 2100)]
def q_sR : List (Int × Int × Int) := [(0, 0, 1), (0, 1, 3), (0, 2, 13), (0, 4, 14), (0, 5, 15), (0, 6, 18), (0, 9, 19), (0, 10, 21), (0, 11, 64), (1, 0, 2), (3, 0, 4), (3, 1, 5), (3, 2, 6), (3, 3, 7), (3, 4, 8), (3, 5, 9), (3, 6, 10), (3, 7, 11), (3, 8, 12), (15, 0, 16), (15, 1, 17), (19, 0, 20), (21, 0, 22), (21, 1, 23), (23, 0, 24), (23, 1, 26), (23, 2, 28), (23, 3, 30), (23, 4, 32), (23, 5, 34), (23, 6, 36), (23, 7, 38), (23, 8, 40), (23, 9, 42), (23, 10, 44), (23, 11, 46), (23, 12, 48), (23, 13, 50), (23, 14, 52), (23, 15, 54), (23, 16, 56), (23, 17, 58), (23, 18, 60), (23, 19, 62), (24, 0, 25), (26, 0, 27), (28, 0, 29), (30, 0, 31), (32, 0, 33), (34, 0, 35), (36, 0, 37), (38, 0, 39), (40, 0, 41), (42, 0, 43), (44, 0, 45), (46, 0, 47), (48, 0, 49), (50, 0, 51), (52, 0, 53), (54, 0, 55), (56, 0, 57), (58, 0, 59), (60, 0, 61), (62, 0, 63), (64, 0, 65), (66, 0, 67), (66, 9, 68), (66, 10, 69), (66, 11, 70), (66, 12, 71), (66, 13, 72), (66, 14, 73), (66, 15, 74), (66, 16, 75), (66, 17, 76), (66, 18, 77), (66, 19, 78), (66, 20, 79), (66, 21, 80), (66, 22, 81), (66, 23, 82), (66, 24, 83), (66, 25, 84), (66, 26, 85), (66, 27, 86), (66, 28, 87), (66, 29, 88), (66, 30, 89), (66, 31, 90), (66, 32, 91), (66, 34, 92), (66, 35, 93), (66, 36, 94), (66, 37, 95), (66, 38, 96), (66, 39, 97), (66, 41, 98), (66, 42, 99), (66, 43, 100), (66, 44, 101), (66, 45, 102), (66, 46, 103), (66, 47, 104), (66, 48, 105), (66, 49, 106), (66, 51, 107), (66, 57, 108), (66, 58, 109), (66, 59, 110), (66, 60, 111), (66, 61, 112), (66, 62, 113), (66, 63, 114), (66, 64, 115), (66, 66, 116), (66, 68, 117), (66, 70, 118), (66, 72, 119), (66, 74, 120), (66, 75, 121), (66, 76, 122), (66, 78, 123), (66, 79, 124), (66, 80, 125)]
/-- where all lies that stays -/
def q_lay (M : qM) : Prop := 126 ≤ q_top M ∧ (∀ e ∈ q_sK, q_kd M e.1 = e.2.1 ∧ q_ln M e.1 = e.2.2) ∧ ∀ e ∈ q_sR, q_rf M e.1 e.2.1 = e.2.2
set_option maxRecDepth 100000 in
theorem q_sK0 : (q_sK.all fun e => decide (e.1 ≠ -3) && decide (q_rK 0 q_oAll e.1 (-1, 0) = (e.2.1, e.2.2))) = true := by decide +kernel
set_option maxRecDepth 100000 in
theorem q_sR0 : (q_sR.all fun e => decide (q_rR 0 q_oAll e.1 e.2.1 (-1) = e.2.2)) = true := by decide +kernel
theorem q_M0kl {L : Nat} {xs : Nat → Int32} {a : Int} (h : a ≠ -3) : (q_kd (q_M0 L xs) a, q_ln (q_M0 L xs) a) = (-1, 0) := by
  show ((if a = -3 then ((14 : Int), (L : Int)) else (-1, 0)).1, (if a = -3 then ((14 : Int), (L : Int)) else (-1, 0)).2) = _
  rw [if_neg h]
set_option maxRecDepth 100000 in
theorem q_lay0 {L : Nat} {xs : Nat → Int32} : q_lay (q_run q_oAll (q_M0 L xs)) := by
  refine ⟨?_, fun e he => ?_, fun e he => ?_⟩
  · rw [q_run_top q_oAll (q_M0 L xs) 0 rfl]; decide +kernel
  · have h := List.all_eq_true.mp q_sK0 e he
    rw [Bool.and_eq_true, decide_eq_true_eq, decide_eq_true_eq] at h
    have k := q_run_kl q_oAll (q_M0 L xs) 0 e.1 (-1, 0) rfl (q_M0kl h.1)
    rw [h.2] at k
    exact ⟨congrArg Prod.fst k, congrArg Prod.snd k⟩
  · have h := List.all_eq_true.mp q_sR0 e he
    rw [decide_eq_true_eq] at h
    rw [q_run_rf q_oAll (q_M0 L xs) 0 e.1 e.2.1 (-1) rfl rfl, h]
set_option maxRecDepth 100000 in
theorem q_scr0 {L : Nat} {xs : Nat → Int32} : q_scr L (fun j => (xs j.toNat).toInt) (q_run q_oAll (q_M0 L xs)) := by
  have k := q_run_kl q_oAll (q_M0 L xs) 0 (-3) (14, (L : Int)) rfl rfl
  have e : ∀ (l : List qOp) (T : Int) (r : Int × Int), 0 ≤ T → q_rK T l (-3) r = r := by
    intro l
    induction l with
    | nil => intro T r _; rfl
    | cons o t ih =>
      intro T r hT
      rw [q_rK.eq_def T (o :: t)]
      dsimp only
      rcases q_op_cases o with e | e | ⟨n, e⟩
      · rw [e]; show q_rK (T + 1) t (-3) _ = r; rw [if_neg (by omega)]; exact ih _ _ (by omega)
      · rw [e]; exact ih _ _ hT
      · rw [e]; exact ih _ _ hT
  rw [e _ 0 _ (Int.le_refl 0)] at k
  refine ⟨congrArg Prod.fst k, congrArg Prod.snd k, fun j => ?_⟩
  rw [q_run_nm q_oAll (q_M0 L xs) 0 (-3) j ((xs j.toNat).toInt) rfl rfl]
  have e2 : ∀ (l : List qOp) (T r : Int), 0 ≤ T → (l.all fun o => decide (o.1 = 0) || decide (0 ≤ o.2.1)) = true → q_rN T l (-3) j r = r := by
    intro l
    induction l with
    | nil => intro T r _ _; rfl
    | cons o t ih =>
      intro T r hT hall
      rw [List.all_cons, Bool.and_eq_true] at hall
      rw [q_rN.eq_def T (o :: t)]
      dsimp only
      rcases q_op_cases o with e | e | ⟨n, e⟩
      · rw [e]; show q_rN (T + 1) t (-3) j _ = r; rw [if_neg (by omega)]; exact ih _ _ (by omega) hall.2
      · rw [e]; exact ih _ _ hT hall.2
      · have h1 := hall.1
        rw [e] at h1 ⊢
        have h2 : 0 ≤ o.2.1 := by
          rw [Bool.or_eq_true, decide_eq_true_eq, decide_eq_true_eq] at h1
          exact h1.resolve_left (by omega)
        show q_rN T t (-3) j (if (-3 : Int) = o.2.1 ∧ j = o.2.2.1 then o.2.2.2 else r) = r
        rw [if_neg (fun h => by omega)]
        exact ih _ _ hT hall.2
  exact e2 _ 0 _ (Int.le_refl 0) (by decide +kernel)
theorem lk0 {M : qM} (h : q_lay M) : q_kd M 0 = 10 := (h.2.1 (0, 10, 12) (List.mem_of_getElem? (i := 0) rfl)).1
theorem ll0 {M : qM} (h : q_lay M) : q_ln M 0 = 12 := (h.2.1 (0, 10, 12) (List.mem_of_getElem? (i := 0) rfl)).2
theorem lk1 {M : qM} (h : q_lay M) : q_kd M 1 = 7 := (h.2.1 (1, 7, 2) (List.mem_of_getElem? (i := 1) rfl)).1
theorem ll1 {M : qM} (h : q_lay M) : q_ln M 1 = 2 := (h.2.1 (1, 7, 2) (List.mem_of_getElem? (i := 1) rfl)).2
theorem lk2 {M : qM} (h : q_lay M) : q_kd M 2 = 12 := (h.2.1 (2, 12, 2100) (List.mem_of_getElem? (i := 2) rfl)).1
theorem ll2 {M : qM} (h : q_lay M) : q_ln M 2 = 2100 := (h.2.1 (2, 12, 2100) (List.mem_of_getElem? (i := 2) rfl)).2
theorem lk3 {M : qM} (h : q_lay M) : q_kd M 3 = 9 := (h.2.1 (3, 9, 10) (List.mem_of_getElem? (i := 3) rfl)).1
theorem ll3 {M : qM} (h : q_lay M) : q_ln M 3 = 10 := (h.2.1 (3, 9, 10) (List.mem_of_getElem? (i := 3) rfl)).2
theorem lk4 {M : qM} (h : q_lay M) : q_kd M 4 = 12 := (h.2.1 (4, 12, 240) (List.mem_of_getElem? (i := 4) rfl)).1
theorem ll4 {M : qM} (h : q_lay M) : q_ln M 4 = 240 := (h.2.1 (4, 12, 240) (List.mem_of_getElem? (i := 4) rfl)).2
theorem lk5 {M : qM} (h : q_lay M) : q_kd M 5 = 14 := (h.2.1 (5, 14, 30) (List.mem_of_getElem? (i := 5) rfl)).1
theorem ll5 {M : qM} (h : q_lay M) : q_ln M 5 = 30 := (h.2.1 (5, 14, 30) (List.mem_of_getElem? (i := 5) rfl)).2
theorem lk6 {M : qM} (h : q_lay M) : q_kd M 6 = 14 := (h.2.1 (6, 14, 30) (List.mem_of_getElem? (i := 6) rfl)).1
theorem ll6 {M : qM} (h : q_lay M) : q_ln M 6 = 30 := (h.2.1 (6, 14, 30) (List.mem_of_getElem? (i := 6) rfl)).2
theorem lk7 {M : qM} (h : q_lay M) : q_kd M 7 = 14 := (h.2.1 (7, 14, 30) (List.mem_of_getElem? (i := 7) rfl)).1
theorem ll7 {M : qM} (h : q_lay M) : q_ln M 7 = 30 := (h.2.1 (7, 14, 30) (List.mem_of_getElem? (i := 7) rfl)).2
theorem lk8 {M : qM} (h : q_lay M) : q_kd M 8 = 14 := (h.2.1 (8, 14, 30) (List.mem_of_getElem? (i := 8) rfl)).1
theorem ll8 {M : qM} (h : q_lay M) : q_ln M 8 = 30 := (h.2.1 (8, 14, 30) (List.mem_of_getElem? (i := 8) rfl)).2
theorem lk9 {M : qM} (h : q_lay M) : q_kd M 9 = 14 := (h.2.1 (9, 14, 30) (List.mem_of_getElem? (i := 9) rfl)).1
theorem ll9 {M : qM} (h : q_lay M) : q_ln M 9 = 30 := (h.2.1 (9, 14, 30) (List.mem_of_getElem? (i := 9) rfl)).2
theorem lk10 {M : qM} (h : q_lay M) : q_kd M 10 = 15 := (h.2.1 (10, 15, 30) (List.mem_of_getElem? (i := 10) rfl)).1
theorem ll10 {M : qM} (h : q_lay M) : q_ln M 10 = 30 := (h.2.1 (10, 15, 30) (List.mem_of_getElem? (i := 10) rfl)).2
theorem lk11 {M : qM} (h : q_lay M) : q_kd M 11 = 15 := (h.2.1 (11, 15, 30) (List.mem_of_getElem? (i := 11) rfl)).1
theorem ll11 {M : qM} (h : q_lay M) : q_ln M 11 = 30 := (h.2.1 (11, 15, 30) (List.mem_of_getElem? (i := 11) rfl)).2
theorem lk12 {M : qM} (h : q_lay M) : q_kd M 12 = 15 := (h.2.1 (12, 15, 17) (List.mem_of_getElem? (i := 12) rfl)).1
theorem ll12 {M : qM} (h : q_lay M) : q_ln M 12 = 17 := (h.2.1 (12, 15, 17) (List.mem_of_getElem? (i := 12) rfl)).2
theorem lk13 {M : qM} (h : q_lay M) : q_kd M 13 = 17 := (h.2.1 (13, 17, 12) (List.mem_of_getElem? (i := 13) rfl)).1
theorem ll13 {M : qM} (h : q_lay M) : q_ln M 13 = 12 := (h.2.1 (13, 17, 12) (List.mem_of_getElem? (i := 13) rfl)).2
theorem lk14 {M : qM} (h : q_lay M) : q_kd M 14 = 18 := (h.2.1 (14, 18, 5) (List.mem_of_getElem? (i := 14) rfl)).1
theorem ll14 {M : qM} (h : q_lay M) : q_ln M 14 = 5 := (h.2.1 (14, 18, 5) (List.mem_of_getElem? (i := 14) rfl)).2
theorem lk15 {M : qM} (h : q_lay M) : q_kd M 15 = 0 := (h.2.1 (15, 0, 2) (List.mem_of_getElem? (i := 15) rfl)).1
theorem ll15 {M : qM} (h : q_lay M) : q_ln M 15 = 2 := (h.2.1 (15, 0, 2) (List.mem_of_getElem? (i := 15) rfl)).2
theorem lk16 {M : qM} (h : q_lay M) : q_kd M 16 = 14 := (h.2.1 (16, 14, 8) (List.mem_of_getElem? (i := 16) rfl)).1
theorem ll16 {M : qM} (h : q_lay M) : q_ln M 16 = 8 := (h.2.1 (16, 14, 8) (List.mem_of_getElem? (i := 16) rfl)).2
theorem lk17 {M : qM} (h : q_lay M) : q_kd M 17 = 14 := (h.2.1 (17, 14, 128) (List.mem_of_getElem? (i := 17) rfl)).1
theorem ll17 {M : qM} (h : q_lay M) : q_ln M 17 = 128 := (h.2.1 (17, 14, 128) (List.mem_of_getElem? (i := 17) rfl)).2
theorem lk18 {M : qM} (h : q_lay M) : q_kd M 18 = 14 := (h.2.1 (18, 14, 1024) (List.mem_of_getElem? (i := 18) rfl)).1
theorem ll18 {M : qM} (h : q_lay M) : q_ln M 18 = 1024 := (h.2.1 (18, 14, 1024) (List.mem_of_getElem? (i := 18) rfl)).2
theorem lk19 {M : qM} (h : q_lay M) : q_kd M 19 = 6 := (h.2.1 (19, 6, 2) (List.mem_of_getElem? (i := 19) rfl)).1
theorem ll19 {M : qM} (h : q_lay M) : q_ln M 19 = 2 := (h.2.1 (19, 6, 2) (List.mem_of_getElem? (i := 19) rfl)).2
theorem lk20 {M : qM} (h : q_lay M) : q_kd M 20 = 12 := (h.2.1 (20, 12, 100) (List.mem_of_getElem? (i := 20) rfl)).1
theorem ll20 {M : qM} (h : q_lay M) : q_ln M 20 = 100 := (h.2.1 (20, 12, 100) (List.mem_of_getElem? (i := 20) rfl)).2
theorem lk21 {M : qM} (h : q_lay M) : q_kd M 21 = 2 := (h.2.1 (21, 2, 3) (List.mem_of_getElem? (i := 21) rfl)).1
theorem ll21 {M : qM} (h : q_lay M) : q_ln M 21 = 3 := (h.2.1 (21, 2, 3) (List.mem_of_getElem? (i := 21) rfl)).2
theorem lk22 {M : qM} (h : q_lay M) : q_kd M 22 = 14 := (h.2.1 (22, 14, 20) (List.mem_of_getElem? (i := 22) rfl)).1
theorem ll22 {M : qM} (h : q_lay M) : q_ln M 22 = 20 := (h.2.1 (22, 14, 20) (List.mem_of_getElem? (i := 22) rfl)).2
theorem lk23 {M : qM} (h : q_lay M) : q_kd M 23 = 19 := (h.2.1 (23, 19, 20) (List.mem_of_getElem? (i := 23) rfl)).1
theorem ll23 {M : qM} (h : q_lay M) : q_ln M 23 = 20 := (h.2.1 (23, 19, 20) (List.mem_of_getElem? (i := 23) rfl)).2
theorem lk24 {M : qM} (h : q_lay M) : q_kd M 24 = 6 := (h.2.1 (24, 6, 2) (List.mem_of_getElem? (i := 24) rfl)).1
theorem ll24 {M : qM} (h : q_lay M) : q_ln M 24 = 2 := (h.2.1 (24, 6, 2) (List.mem_of_getElem? (i := 24) rfl)).2
theorem lk25 {M : qM} (h : q_lay M) : q_kd M 25 = 12 := (h.2.1 (25, 12, 100) (List.mem_of_getElem? (i := 25) rfl)).1
theorem ll25 {M : qM} (h : q_lay M) : q_ln M 25 = 100 := (h.2.1 (25, 12, 100) (List.mem_of_getElem? (i := 25) rfl)).2
theorem lk26 {M : qM} (h : q_lay M) : q_kd M 26 = 6 := (h.2.1 (26, 6, 2) (List.mem_of_getElem? (i := 26) rfl)).1
theorem ll26 {M : qM} (h : q_lay M) : q_ln M 26 = 2 := (h.2.1 (26, 6, 2) (List.mem_of_getElem? (i := 26) rfl)).2
theorem lk27 {M : qM} (h : q_lay M) : q_kd M 27 = 12 := (h.2.1 (27, 12, 100) (List.mem_of_getElem? (i := 27) rfl)).1
theorem ll27 {M : qM} (h : q_lay M) : q_ln M 27 = 100 := (h.2.1 (27, 12, 100) (List.mem_of_getElem? (i := 27) rfl)).2
theorem lk28 {M : qM} (h : q_lay M) : q_kd M 28 = 6 := (h.2.1 (28, 6, 2) (List.mem_of_getElem? (i := 28) rfl)).1
theorem ll28 {M : qM} (h : q_lay M) : q_ln M 28 = 2 := (h.2.1 (28, 6, 2) (List.mem_of_getElem? (i := 28) rfl)).2
theorem lk29 {M : qM} (h : q_lay M) : q_kd M 29 = 12 := (h.2.1 (29, 12, 100) (List.mem_of_getElem? (i := 29) rfl)).1
theorem ll29 {M : qM} (h : q_lay M) : q_ln M 29 = 100 := (h.2.1 (29, 12, 100) (List.mem_of_getElem? (i := 29) rfl)).2
theorem lk30 {M : qM} (h : q_lay M) : q_kd M 30 = 6 := (h.2.1 (30, 6, 2) (List.mem_of_getElem? (i := 30) rfl)).1
theorem ll30 {M : qM} (h : q_lay M) : q_ln M 30 = 2 := (h.2.1 (30, 6, 2) (List.mem_of_getElem? (i := 30) rfl)).2
theorem lk31 {M : qM} (h : q_lay M) : q_kd M 31 = 12 := (h.2.1 (31, 12, 100) (List.mem_of_getElem? (i := 31) rfl)).1
theorem ll31 {M : qM} (h : q_lay M) : q_ln M 31 = 100 := (h.2.1 (31, 12, 100) (List.mem_of_getElem? (i := 31) rfl)).2
theorem lk32 {M : qM} (h : q_lay M) : q_kd M 32 = 6 := (h.2.1 (32, 6, 2) (List.mem_of_getElem? (i := 32) rfl)).1
theorem ll32 {M : qM} (h : q_lay M) : q_ln M 32 = 2 := (h.2.1 (32, 6, 2) (List.mem_of_getElem? (i := 32) rfl)).2
theorem lk33 {M : qM} (h : q_lay M) : q_kd M 33 = 12 := (h.2.1 (33, 12, 100) (List.mem_of_getElem? (i := 33) rfl)).1
theorem ll33 {M : qM} (h : q_lay M) : q_ln M 33 = 100 := (h.2.1 (33, 12, 100) (List.mem_of_getElem? (i := 33) rfl)).2
theorem lk34 {M : qM} (h : q_lay M) : q_kd M 34 = 6 := (h.2.1 (34, 6, 2) (List.mem_of_getElem? (i := 34) rfl)).1
theorem ll34 {M : qM} (h : q_lay M) : q_ln M 34 = 2 := (h.2.1 (34, 6, 2) (List.mem_of_getElem? (i := 34) rfl)).2
theorem lk35 {M : qM} (h : q_lay M) : q_kd M 35 = 12 := (h.2.1 (35, 12, 100) (List.mem_of_getElem? (i := 35) rfl)).1
theorem ll35 {M : qM} (h : q_lay M) : q_ln M 35 = 100 := (h.2.1 (35, 12, 100) (List.mem_of_getElem? (i := 35) rfl)).2
theorem lk36 {M : qM} (h : q_lay M) : q_kd M 36 = 6 := (h.2.1 (36, 6, 2) (List.mem_of_getElem? (i := 36) rfl)).1
theorem ll36 {M : qM} (h : q_lay M) : q_ln M 36 = 2 := (h.2.1 (36, 6, 2) (List.mem_of_getElem? (i := 36) rfl)).2
theorem lk37 {M : qM} (h : q_lay M) : q_kd M 37 = 12 := (h.2.1 (37, 12, 100) (List.mem_of_getElem? (i := 37) rfl)).1
theorem ll37 {M : qM} (h : q_lay M) : q_ln M 37 = 100 := (h.2.1 (37, 12, 100) (List.mem_of_getElem? (i := 37) rfl)).2
theorem lk38 {M : qM} (h : q_lay M) : q_kd M 38 = 6 := (h.2.1 (38, 6, 2) (List.mem_of_getElem? (i := 38) rfl)).1
theorem ll38 {M : qM} (h : q_lay M) : q_ln M 38 = 2 := (h.2.1 (38, 6, 2) (List.mem_of_getElem? (i := 38) rfl)).2
theorem lk39 {M : qM} (h : q_lay M) : q_kd M 39 = 12 := (h.2.1 (39, 12, 100) (List.mem_of_getElem? (i := 39) rfl)).1
theorem ll39 {M : qM} (h : q_lay M) : q_ln M 39 = 100 := (h.2.1 (39, 12, 100) (List.mem_of_getElem? (i := 39) rfl)).2
theorem lk40 {M : qM} (h : q_lay M) : q_kd M 40 = 6 := (h.2.1 (40, 6, 2) (List.mem_of_getElem? (i := 40) rfl)).1
theorem ll40 {M : qM} (h : q_lay M) : q_ln M 40 = 2 := (h.2.1 (40, 6, 2) (List.mem_of_getElem? (i := 40) rfl)).2
theorem lk41 {M : qM} (h : q_lay M) : q_kd M 41 = 12 := (h.2.1 (41, 12, 100) (List.mem_of_getElem? (i := 41) rfl)).1
theorem ll41 {M : qM} (h : q_lay M) : q_ln M 41 = 100 := (h.2.1 (41, 12, 100) (List.mem_of_getElem? (i := 41) rfl)).2
theorem lk42 {M : qM} (h : q_lay M) : q_kd M 42 = 6 := (h.2.1 (42, 6, 2) (List.mem_of_getElem? (i := 42) rfl)).1
theorem ll42 {M : qM} (h : q_lay M) : q_ln M 42 = 2 := (h.2.1 (42, 6, 2) (List.mem_of_getElem? (i := 42) rfl)).2
theorem lk43 {M : qM} (h : q_lay M) : q_kd M 43 = 12 := (h.2.1 (43, 12, 100) (List.mem_of_getElem? (i := 43) rfl)).1
theorem ll43 {M : qM} (h : q_lay M) : q_ln M 43 = 100 := (h.2.1 (43, 12, 100) (List.mem_of_getElem? (i := 43) rfl)).2
theorem lk44 {M : qM} (h : q_lay M) : q_kd M 44 = 6 := (h.2.1 (44, 6, 2) (List.mem_of_getElem? (i := 44) rfl)).1
theorem ll44 {M : qM} (h : q_lay M) : q_ln M 44 = 2 := (h.2.1 (44, 6, 2) (List.mem_of_getElem? (i := 44) rfl)).2
theorem lk45 {M : qM} (h : q_lay M) : q_kd M 45 = 12 := (h.2.1 (45, 12, 100) (List.mem_of_getElem? (i := 45) rfl)).1
theorem ll45 {M : qM} (h : q_lay M) : q_ln M 45 = 100 := (h.2.1 (45, 12, 100) (List.mem_of_getElem? (i := 45) rfl)).2
theorem lk46 {M : qM} (h : q_lay M) : q_kd M 46 = 6 := (h.2.1 (46, 6, 2) (List.mem_of_getElem? (i := 46) rfl)).1
theorem ll46 {M : qM} (h : q_lay M) : q_ln M 46 = 2 := (h.2.1 (46, 6, 2) (List.mem_of_getElem? (i := 46) rfl)).2
theorem lk47 {M : qM} (h : q_lay M) : q_kd M 47 = 12 := (h.2.1 (47, 12, 100) (List.mem_of_getElem? (i := 47) rfl)).1
theorem ll47 {M : qM} (h : q_lay M) : q_ln M 47 = 100 := (h.2.1 (47, 12, 100) (List.mem_of_getElem? (i := 47) rfl)).2
theorem lk48 {M : qM} (h : q_lay M) : q_kd M 48 = 6 := (h.2.1 (48, 6, 2) (List.mem_of_getElem? (i := 48) rfl)).1
theorem ll48 {M : qM} (h : q_lay M) : q_ln M 48 = 2 := (h.2.1 (48, 6, 2) (List.mem_of_getElem? (i := 48) rfl)).2
theorem lk49 {M : qM} (h : q_lay M) : q_kd M 49 = 12 := (h.2.1 (49, 12, 100) (List.mem_of_getElem? (i := 49) rfl)).1
theorem ll49 {M : qM} (h : q_lay M) : q_ln M 49 = 100 := (h.2.1 (49, 12, 100) (List.mem_of_getElem? (i := 49) rfl)).2
theorem lk50 {M : qM} (h : q_lay M) : q_kd M 50 = 6 := (h.2.1 (50, 6, 2) (List.mem_of_getElem? (i := 50) rfl)).1
theorem ll50 {M : qM} (h : q_lay M) : q_ln M 50 = 2 := (h.2.1 (50, 6, 2) (List.mem_of_getElem? (i := 50) rfl)).2
theorem lk51 {M : qM} (h : q_lay M) : q_kd M 51 = 12 := (h.2.1 (51, 12, 100) (List.mem_of_getElem? (i := 51) rfl)).1
theorem ll51 {M : qM} (h : q_lay M) : q_ln M 51 = 100 := (h.2.1 (51, 12, 100) (List.mem_of_getElem? (i := 51) rfl)).2
theorem lk52 {M : qM} (h : q_lay M) : q_kd M 52 = 6 := (h.2.1 (52, 6, 2) (List.mem_of_getElem? (i := 52) rfl)).1
theorem ll52 {M : qM} (h : q_lay M) : q_ln M 52 = 2 := (h.2.1 (52, 6, 2) (List.mem_of_getElem? (i := 52) rfl)).2
theorem lk53 {M : qM} (h : q_lay M) : q_kd M 53 = 12 := (h.2.1 (53, 12, 100) (List.mem_of_getElem? (i := 53) rfl)).1
theorem ll53 {M : qM} (h : q_lay M) : q_ln M 53 = 100 := (h.2.1 (53, 12, 100) (List.mem_of_getElem? (i := 53) rfl)).2
theorem lk54 {M : qM} (h : q_lay M) : q_kd M 54 = 6 := (h.2.1 (54, 6, 2) (List.mem_of_getElem? (i := 54) rfl)).1
theorem ll54 {M : qM} (h : q_lay M) : q_ln M 54 = 2 := (h.2.1 (54, 6, 2) (List.mem_of_getElem? (i := 54) rfl)).2
theorem lk55 {M : qM} (h : q_lay M) : q_kd M 55 = 12 := (h.2.1 (55, 12, 100) (List.mem_of_getElem? (i := 55) rfl)).1
theorem ll55 {M : qM} (h : q_lay M) : q_ln M 55 = 100 := (h.2.1 (55, 12, 100) (List.mem_of_getElem? (i := 55) rfl)).2
theorem lk56 {M : qM} (h : q_lay M) : q_kd M 56 = 6 := (h.2.1 (56, 6, 2) (List.mem_of_getElem? (i := 56) rfl)).1
theorem ll56 {M : qM} (h : q_lay M) : q_ln M 56 = 2 := (h.2.1 (56, 6, 2) (List.mem_of_getElem? (i := 56) rfl)).2
theorem lk57 {M : qM} (h : q_lay M) : q_kd M 57 = 12 := (h.2.1 (57, 12, 100) (List.mem_of_getElem? (i := 57) rfl)).1
theorem ll57 {M : qM} (h : q_lay M) : q_ln M 57 = 100 := (h.2.1 (57, 12, 100) (List.mem_of_getElem? (i := 57) rfl)).2
theorem lk58 {M : qM} (h : q_lay M) : q_kd M 58 = 6 := (h.2.1 (58, 6, 2) (List.mem_of_getElem? (i := 58) rfl)).1
theorem ll58 {M : qM} (h : q_lay M) : q_ln M 58 = 2 := (h.2.1 (58, 6, 2) (List.mem_of_getElem? (i := 58) rfl)).2
theorem lk59 {M : qM} (h : q_lay M) : q_kd M 59 = 12 := (h.2.1 (59, 12, 100) (List.mem_of_getElem? (i := 59) rfl)).1
theorem ll59 {M : qM} (h : q_lay M) : q_ln M 59 = 100 := (h.2.1 (59, 12, 100) (List.mem_of_getElem? (i := 59) rfl)).2
theorem lk60 {M : qM} (h : q_lay M) : q_kd M 60 = 6 := (h.2.1 (60, 6, 2) (List.mem_of_getElem? (i := 60) rfl)).1
theorem ll60 {M : qM} (h : q_lay M) : q_ln M 60 = 2 := (h.2.1 (60, 6, 2) (List.mem_of_getElem? (i := 60) rfl)).2
theorem lk61 {M : qM} (h : q_lay M) : q_kd M 61 = 12 := (h.2.1 (61, 12, 100) (List.mem_of_getElem? (i := 61) rfl)).1
theorem ll61 {M : qM} (h : q_lay M) : q_ln M 61 = 100 := (h.2.1 (61, 12, 100) (List.mem_of_getElem? (i := 61) rfl)).2
theorem lk62 {M : qM} (h : q_lay M) : q_kd M 62 = 6 := (h.2.1 (62, 6, 2) (List.mem_of_getElem? (i := 62) rfl)).1
theorem ll62 {M : qM} (h : q_lay M) : q_ln M 62 = 2 := (h.2.1 (62, 6, 2) (List.mem_of_getElem? (i := 62) rfl)).2
theorem lk63 {M : qM} (h : q_lay M) : q_kd M 63 = 12 := (h.2.1 (63, 12, 100) (List.mem_of_getElem? (i := 63) rfl)).1
theorem ll63 {M : qM} (h : q_lay M) : q_ln M 63 = 100 := (h.2.1 (63, 12, 100) (List.mem_of_getElem? (i := 63) rfl)).2
theorem lk64 {M : qM} (h : q_lay M) : q_kd M 64 = 3 := (h.2.1 (64, 3, 2) (List.mem_of_getElem? (i := 64) rfl)).1
theorem ll64 {M : qM} (h : q_lay M) : q_ln M 64 = 2 := (h.2.1 (64, 3, 2) (List.mem_of_getElem? (i := 64) rfl)).2
theorem lk65 {M : qM} (h : q_lay M) : q_kd M 65 = 12 := (h.2.1 (65, 12, 2042) (List.mem_of_getElem? (i := 65) rfl)).1
theorem ll65 {M : qM} (h : q_lay M) : q_ln M 65 = 2042 := (h.2.1 (65, 12, 2042) (List.mem_of_getElem? (i := 65) rfl)).2
theorem lk66 {M : qM} (h : q_lay M) : q_kd M 66 = 11 := (h.2.1 (66, 11, 82) (List.mem_of_getElem? (i := 66) rfl)).1
theorem ll66 {M : qM} (h : q_lay M) : q_ln M 66 = 82 := (h.2.1 (66, 11, 82) (List.mem_of_getElem? (i := 66) rfl)).2
theorem lk67 {M : qM} (h : q_lay M) : q_kd M 67 = 14 := (h.2.1 (67, 14, 2100) (List.mem_of_getElem? (i := 67) rfl)).1
theorem ll67 {M : qM} (h : q_lay M) : q_ln M 67 = 2100 := (h.2.1 (67, 14, 2100) (List.mem_of_getElem? (i := 67) rfl)).2
theorem lk68 {M : qM} (h : q_lay M) : q_kd M 68 = 13 := (h.2.1 (68, 13, 4) (List.mem_of_getElem? (i := 68) rfl)).1
theorem ll68 {M : qM} (h : q_lay M) : q_ln M 68 = 4 := (h.2.1 (68, 13, 4) (List.mem_of_getElem? (i := 68) rfl)).2
theorem lk69 {M : qM} (h : q_lay M) : q_kd M 69 = 13 := (h.2.1 (69, 13, 5) (List.mem_of_getElem? (i := 69) rfl)).1
theorem ll69 {M : qM} (h : q_lay M) : q_ln M 69 = 5 := (h.2.1 (69, 13, 5) (List.mem_of_getElem? (i := 69) rfl)).2
theorem lk70 {M : qM} (h : q_lay M) : q_kd M 70 = 13 := (h.2.1 (70, 13, 4) (List.mem_of_getElem? (i := 70) rfl)).1
theorem ll70 {M : qM} (h : q_lay M) : q_ln M 70 = 4 := (h.2.1 (70, 13, 4) (List.mem_of_getElem? (i := 70) rfl)).2
theorem lk71 {M : qM} (h : q_lay M) : q_kd M 71 = 13 := (h.2.1 (71, 13, 4) (List.mem_of_getElem? (i := 71) rfl)).1
theorem ll71 {M : qM} (h : q_lay M) : q_ln M 71 = 4 := (h.2.1 (71, 13, 4) (List.mem_of_getElem? (i := 71) rfl)).2
theorem lk72 {M : qM} (h : q_lay M) : q_kd M 72 = 13 := (h.2.1 (72, 13, 5) (List.mem_of_getElem? (i := 72) rfl)).1
theorem ll72 {M : qM} (h : q_lay M) : q_ln M 72 = 5 := (h.2.1 (72, 13, 5) (List.mem_of_getElem? (i := 72) rfl)).2
theorem lk73 {M : qM} (h : q_lay M) : q_kd M 73 = 13 := (h.2.1 (73, 13, 5) (List.mem_of_getElem? (i := 73) rfl)).1
theorem ll73 {M : qM} (h : q_lay M) : q_ln M 73 = 5 := (h.2.1 (73, 13, 5) (List.mem_of_getElem? (i := 73) rfl)).2
theorem lk74 {M : qM} (h : q_lay M) : q_kd M 74 = 13 := (h.2.1 (74, 13, 4) (List.mem_of_getElem? (i := 74) rfl)).1
theorem ll74 {M : qM} (h : q_lay M) : q_ln M 74 = 4 := (h.2.1 (74, 13, 4) (List.mem_of_getElem? (i := 74) rfl)).2
theorem lk75 {M : qM} (h : q_lay M) : q_kd M 75 = 13 := (h.2.1 (75, 13, 5) (List.mem_of_getElem? (i := 75) rfl)).1
theorem ll75 {M : qM} (h : q_lay M) : q_ln M 75 = 5 := (h.2.1 (75, 13, 5) (List.mem_of_getElem? (i := 75) rfl)).2
theorem lk76 {M : qM} (h : q_lay M) : q_kd M 76 = 13 := (h.2.1 (76, 13, 4) (List.mem_of_getElem? (i := 76) rfl)).1
theorem ll76 {M : qM} (h : q_lay M) : q_ln M 76 = 4 := (h.2.1 (76, 13, 4) (List.mem_of_getElem? (i := 76) rfl)).2
theorem lk77 {M : qM} (h : q_lay M) : q_kd M 77 = 13 := (h.2.1 (77, 13, 4) (List.mem_of_getElem? (i := 77) rfl)).1
theorem ll77 {M : qM} (h : q_lay M) : q_ln M 77 = 4 := (h.2.1 (77, 13, 4) (List.mem_of_getElem? (i := 77) rfl)).2
theorem lk78 {M : qM} (h : q_lay M) : q_kd M 78 = 13 := (h.2.1 (78, 13, 2) (List.mem_of_getElem? (i := 78) rfl)).1
theorem ll78 {M : qM} (h : q_lay M) : q_ln M 78 = 2 := (h.2.1 (78, 13, 2) (List.mem_of_getElem? (i := 78) rfl)).2
theorem lk79 {M : qM} (h : q_lay M) : q_kd M 79 = 13 := (h.2.1 (79, 13, 3) (List.mem_of_getElem? (i := 79) rfl)).1
theorem ll79 {M : qM} (h : q_lay M) : q_ln M 79 = 3 := (h.2.1 (79, 13, 3) (List.mem_of_getElem? (i := 79) rfl)).2
theorem lk80 {M : qM} (h : q_lay M) : q_kd M 80 = 13 := (h.2.1 (80, 13, 3) (List.mem_of_getElem? (i := 80) rfl)).1
theorem ll80 {M : qM} (h : q_lay M) : q_ln M 80 = 3 := (h.2.1 (80, 13, 3) (List.mem_of_getElem? (i := 80) rfl)).2
theorem lk81 {M : qM} (h : q_lay M) : q_kd M 81 = 13 := (h.2.1 (81, 13, 3) (List.mem_of_getElem? (i := 81) rfl)).1
theorem ll81 {M : qM} (h : q_lay M) : q_ln M 81 = 3 := (h.2.1 (81, 13, 3) (List.mem_of_getElem? (i := 81) rfl)).2
theorem lk82 {M : qM} (h : q_lay M) : q_kd M 82 = 13 := (h.2.1 (82, 13, 4) (List.mem_of_getElem? (i := 82) rfl)).1
theorem ll82 {M : qM} (h : q_lay M) : q_ln M 82 = 4 := (h.2.1 (82, 13, 4) (List.mem_of_getElem? (i := 82) rfl)).2
theorem lk83 {M : qM} (h : q_lay M) : q_kd M 83 = 13 := (h.2.1 (83, 13, 3) (List.mem_of_getElem? (i := 83) rfl)).1
theorem ll83 {M : qM} (h : q_lay M) : q_ln M 83 = 3 := (h.2.1 (83, 13, 3) (List.mem_of_getElem? (i := 83) rfl)).2
theorem lk84 {M : qM} (h : q_lay M) : q_kd M 84 = 13 := (h.2.1 (84, 13, 5) (List.mem_of_getElem? (i := 84) rfl)).1
theorem ll84 {M : qM} (h : q_lay M) : q_ln M 84 = 5 := (h.2.1 (84, 13, 5) (List.mem_of_getElem? (i := 84) rfl)).2
theorem lk85 {M : qM} (h : q_lay M) : q_kd M 85 = 13 := (h.2.1 (85, 13, 5) (List.mem_of_getElem? (i := 85) rfl)).1
theorem ll85 {M : qM} (h : q_lay M) : q_ln M 85 = 5 := (h.2.1 (85, 13, 5) (List.mem_of_getElem? (i := 85) rfl)).2
theorem lk86 {M : qM} (h : q_lay M) : q_kd M 86 = 13 := (h.2.1 (86, 13, 5) (List.mem_of_getElem? (i := 86) rfl)).1
theorem ll86 {M : qM} (h : q_lay M) : q_ln M 86 = 5 := (h.2.1 (86, 13, 5) (List.mem_of_getElem? (i := 86) rfl)).2
theorem lk87 {M : qM} (h : q_lay M) : q_kd M 87 = 13 := (h.2.1 (87, 13, 3) (List.mem_of_getElem? (i := 87) rfl)).1
theorem ll87 {M : qM} (h : q_lay M) : q_ln M 87 = 3 := (h.2.1 (87, 13, 3) (List.mem_of_getElem? (i := 87) rfl)).2
theorem lk88 {M : qM} (h : q_lay M) : q_kd M 88 = 13 := (h.2.1 (88, 13, 4) (List.mem_of_getElem? (i := 88) rfl)).1
theorem ll88 {M : qM} (h : q_lay M) : q_ln M 88 = 4 := (h.2.1 (88, 13, 4) (List.mem_of_getElem? (i := 88) rfl)).2
theorem lk89 {M : qM} (h : q_lay M) : q_kd M 89 = 13 := (h.2.1 (89, 13, 3) (List.mem_of_getElem? (i := 89) rfl)).1
theorem ll89 {M : qM} (h : q_lay M) : q_ln M 89 = 3 := (h.2.1 (89, 13, 3) (List.mem_of_getElem? (i := 89) rfl)).2
theorem lk90 {M : qM} (h : q_lay M) : q_kd M 90 = 13 := (h.2.1 (90, 13, 3) (List.mem_of_getElem? (i := 90) rfl)).1
theorem ll90 {M : qM} (h : q_lay M) : q_ln M 90 = 3 := (h.2.1 (90, 13, 3) (List.mem_of_getElem? (i := 90) rfl)).2
theorem lk91 {M : qM} (h : q_lay M) : q_kd M 91 = 13 := (h.2.1 (91, 13, 3) (List.mem_of_getElem? (i := 91) rfl)).1
theorem ll91 {M : qM} (h : q_lay M) : q_ln M 91 = 3 := (h.2.1 (91, 13, 3) (List.mem_of_getElem? (i := 91) rfl)).2
theorem lk92 {M : qM} (h : q_lay M) : q_kd M 92 = 14 := (h.2.1 (92, 14, 240) (List.mem_of_getElem? (i := 92) rfl)).1
theorem ll92 {M : qM} (h : q_lay M) : q_ln M 92 = 240 := (h.2.1 (92, 14, 240) (List.mem_of_getElem? (i := 92) rfl)).2
theorem lk93 {M : qM} (h : q_lay M) : q_kd M 93 = 14 := (h.2.1 (93, 14, 30) (List.mem_of_getElem? (i := 93) rfl)).1
theorem ll93 {M : qM} (h : q_lay M) : q_ln M 93 = 30 := (h.2.1 (93, 14, 30) (List.mem_of_getElem? (i := 93) rfl)).2
theorem lk94 {M : qM} (h : q_lay M) : q_kd M 94 = 14 := (h.2.1 (94, 14, 30) (List.mem_of_getElem? (i := 94) rfl)).1
theorem ll94 {M : qM} (h : q_lay M) : q_ln M 94 = 30 := (h.2.1 (94, 14, 30) (List.mem_of_getElem? (i := 94) rfl)).2
theorem lk95 {M : qM} (h : q_lay M) : q_kd M 95 = 14 := (h.2.1 (95, 14, 30) (List.mem_of_getElem? (i := 95) rfl)).1
theorem ll95 {M : qM} (h : q_lay M) : q_ln M 95 = 30 := (h.2.1 (95, 14, 30) (List.mem_of_getElem? (i := 95) rfl)).2
theorem lk96 {M : qM} (h : q_lay M) : q_kd M 96 = 14 := (h.2.1 (96, 14, 30) (List.mem_of_getElem? (i := 96) rfl)).1
theorem ll96 {M : qM} (h : q_lay M) : q_ln M 96 = 30 := (h.2.1 (96, 14, 30) (List.mem_of_getElem? (i := 96) rfl)).2
theorem lk97 {M : qM} (h : q_lay M) : q_kd M 97 = 14 := (h.2.1 (97, 14, 30) (List.mem_of_getElem? (i := 97) rfl)).1
theorem ll97 {M : qM} (h : q_lay M) : q_ln M 97 = 30 := (h.2.1 (97, 14, 30) (List.mem_of_getElem? (i := 97) rfl)).2
theorem lk98 {M : qM} (h : q_lay M) : q_kd M 98 = 14 := (h.2.1 (98, 14, 12) (List.mem_of_getElem? (i := 98) rfl)).1
theorem ll98 {M : qM} (h : q_lay M) : q_ln M 98 = 12 := (h.2.1 (98, 14, 12) (List.mem_of_getElem? (i := 98) rfl)).2
theorem lk99 {M : qM} (h : q_lay M) : q_kd M 99 = 14 := (h.2.1 (99, 14, 72) (List.mem_of_getElem? (i := 99) rfl)).1
theorem ll99 {M : qM} (h : q_lay M) : q_ln M 99 = 72 := (h.2.1 (99, 14, 72) (List.mem_of_getElem? (i := 99) rfl)).2
theorem lk100 {M : qM} (h : q_lay M) : q_kd M 100 = 16 := (h.2.1 (100, 16, 6) (List.mem_of_getElem? (i := 100) rfl)).1
theorem ll100 {M : qM} (h : q_lay M) : q_ln M 100 = 6 := (h.2.1 (100, 16, 6) (List.mem_of_getElem? (i := 100) rfl)).2
theorem lk101 {M : qM} (h : q_lay M) : q_kd M 101 = 14 := (h.2.1 (101, 14, 6) (List.mem_of_getElem? (i := 101) rfl)).1
theorem ll101 {M : qM} (h : q_lay M) : q_ln M 101 = 6 := (h.2.1 (101, 14, 6) (List.mem_of_getElem? (i := 101) rfl)).2
theorem lk102 {M : qM} (h : q_lay M) : q_kd M 102 = 14 := (h.2.1 (102, 14, 120) (List.mem_of_getElem? (i := 102) rfl)).1
theorem ll102 {M : qM} (h : q_lay M) : q_ln M 102 = 120 := (h.2.1 (102, 14, 120) (List.mem_of_getElem? (i := 102) rfl)).2
theorem lk103 {M : qM} (h : q_lay M) : q_kd M 103 = 14 := (h.2.1 (103, 14, 120) (List.mem_of_getElem? (i := 103) rfl)).1
theorem ll103 {M : qM} (h : q_lay M) : q_ln M 103 = 120 := (h.2.1 (103, 14, 120) (List.mem_of_getElem? (i := 103) rfl)).2
theorem lk104 {M : qM} (h : q_lay M) : q_kd M 104 = 14 := (h.2.1 (104, 14, 120) (List.mem_of_getElem? (i := 104) rfl)).1
theorem ll104 {M : qM} (h : q_lay M) : q_ln M 104 = 120 := (h.2.1 (104, 14, 120) (List.mem_of_getElem? (i := 104) rfl)).2
theorem lk105 {M : qM} (h : q_lay M) : q_kd M 105 = 14 := (h.2.1 (105, 14, 120) (List.mem_of_getElem? (i := 105) rfl)).1
theorem ll105 {M : qM} (h : q_lay M) : q_ln M 105 = 120 := (h.2.1 (105, 14, 120) (List.mem_of_getElem? (i := 105) rfl)).2
theorem lk106 {M : qM} (h : q_lay M) : q_kd M 106 = 14 := (h.2.1 (106, 14, 12600) (List.mem_of_getElem? (i := 106) rfl)).1
theorem ll106 {M : qM} (h : q_lay M) : q_ln M 106 = 12600 := (h.2.1 (106, 14, 12600) (List.mem_of_getElem? (i := 106) rfl)).2
theorem lk107 {M : qM} (h : q_lay M) : q_kd M 107 = 14 := (h.2.1 (107, 14, 2200) (List.mem_of_getElem? (i := 107) rfl)).1
theorem ll107 {M : qM} (h : q_lay M) : q_ln M 107 = 2200 := (h.2.1 (107, 14, 2200) (List.mem_of_getElem? (i := 107) rfl)).2
theorem lk108 {M : qM} (h : q_lay M) : q_kd M 108 = 14 := (h.2.1 (108, 14, 640) (List.mem_of_getElem? (i := 108) rfl)).1
theorem ll108 {M : qM} (h : q_lay M) : q_ln M 108 = 640 := (h.2.1 (108, 14, 640) (List.mem_of_getElem? (i := 108) rfl)).2
theorem lk109 {M : qM} (h : q_lay M) : q_kd M 109 = 14 := (h.2.1 (109, 14, 640) (List.mem_of_getElem? (i := 109) rfl)).1
theorem ll109 {M : qM} (h : q_lay M) : q_ln M 109 = 640 := (h.2.1 (109, 14, 640) (List.mem_of_getElem? (i := 109) rfl)).2
theorem lk110 {M : qM} (h : q_lay M) : q_kd M 110 = 14 := (h.2.1 (110, 14, 640) (List.mem_of_getElem? (i := 110) rfl)).1
theorem ll110 {M : qM} (h : q_lay M) : q_ln M 110 = 640 := (h.2.1 (110, 14, 640) (List.mem_of_getElem? (i := 110) rfl)).2
theorem lk111 {M : qM} (h : q_lay M) : q_kd M 111 = 14 := (h.2.1 (111, 14, 66560) (List.mem_of_getElem? (i := 111) rfl)).1
theorem ll111 {M : qM} (h : q_lay M) : q_ln M 111 = 66560 := (h.2.1 (111, 14, 66560) (List.mem_of_getElem? (i := 111) rfl)).2
theorem lk112 {M : qM} (h : q_lay M) : q_kd M 112 = 14 := (h.2.1 (112, 14, 640) (List.mem_of_getElem? (i := 112) rfl)).1
theorem ll112 {M : qM} (h : q_lay M) : q_ln M 112 = 640 := (h.2.1 (112, 14, 640) (List.mem_of_getElem? (i := 112) rfl)).2
theorem lk113 {M : qM} (h : q_lay M) : q_kd M 113 = 14 := (h.2.1 (113, 14, 640) (List.mem_of_getElem? (i := 113) rfl)).1
theorem ll113 {M : qM} (h : q_lay M) : q_ln M 113 = 640 := (h.2.1 (113, 14, 640) (List.mem_of_getElem? (i := 113) rfl)).2
theorem lk114 {M : qM} (h : q_lay M) : q_kd M 114 = 14 := (h.2.1 (114, 14, 640) (List.mem_of_getElem? (i := 114) rfl)).1
theorem ll114 {M : qM} (h : q_lay M) : q_ln M 114 = 640 := (h.2.1 (114, 14, 640) (List.mem_of_getElem? (i := 114) rfl)).2
theorem lk115 {M : qM} (h : q_lay M) : q_kd M 115 = 16 := (h.2.1 (115, 16, 640) (List.mem_of_getElem? (i := 115) rfl)).1
theorem ll115 {M : qM} (h : q_lay M) : q_ln M 115 = 640 := (h.2.1 (115, 16, 640) (List.mem_of_getElem? (i := 115) rfl)).2
theorem lk116 {M : qM} (h : q_lay M) : q_kd M 116 = 14 := (h.2.1 (116, 14, 16) (List.mem_of_getElem? (i := 116) rfl)).1
theorem ll116 {M : qM} (h : q_lay M) : q_ln M 116 = 16 := (h.2.1 (116, 14, 16) (List.mem_of_getElem? (i := 116) rfl)).2
theorem lk117 {M : qM} (h : q_lay M) : q_kd M 117 = 15 := (h.2.1 (117, 15, 2200) (List.mem_of_getElem? (i := 117) rfl)).1
theorem ll117 {M : qM} (h : q_lay M) : q_ln M 117 = 2200 := (h.2.1 (117, 15, 2200) (List.mem_of_getElem? (i := 117) rfl)).2
theorem lk118 {M : qM} (h : q_lay M) : q_kd M 118 = 14 := (h.2.1 (118, 14, 640) (List.mem_of_getElem? (i := 118) rfl)).1
theorem ll118 {M : qM} (h : q_lay M) : q_ln M 118 = 640 := (h.2.1 (118, 14, 640) (List.mem_of_getElem? (i := 118) rfl)).2
theorem lk119 {M : qM} (h : q_lay M) : q_kd M 119 = 14 := (h.2.1 (119, 14, 104) (List.mem_of_getElem? (i := 119) rfl)).1
theorem ll119 {M : qM} (h : q_lay M) : q_ln M 119 = 104 := (h.2.1 (119, 14, 104) (List.mem_of_getElem? (i := 119) rfl)).2
theorem lk120 {M : qM} (h : q_lay M) : q_kd M 120 = 14 := (h.2.1 (120, 14, 20) (List.mem_of_getElem? (i := 120) rfl)).1
theorem ll120 {M : qM} (h : q_lay M) : q_ln M 120 = 20 := (h.2.1 (120, 14, 20) (List.mem_of_getElem? (i := 120) rfl)).2
theorem lk121 {M : qM} (h : q_lay M) : q_kd M 121 = 14 := (h.2.1 (121, 14, 20) (List.mem_of_getElem? (i := 121) rfl)).1
theorem ll121 {M : qM} (h : q_lay M) : q_ln M 121 = 20 := (h.2.1 (121, 14, 20) (List.mem_of_getElem? (i := 121) rfl)).2
theorem lk122 {M : qM} (h : q_lay M) : q_kd M 122 = 14 := (h.2.1 (122, 14, 2080) (List.mem_of_getElem? (i := 122) rfl)).1
theorem ll122 {M : qM} (h : q_lay M) : q_ln M 122 = 2080 := (h.2.1 (122, 14, 2080) (List.mem_of_getElem? (i := 122) rfl)).2
theorem lk123 {M : qM} (h : q_lay M) : q_kd M 123 = 14 := (h.2.1 (123, 14, 640) (List.mem_of_getElem? (i := 123) rfl)).1
theorem ll123 {M : qM} (h : q_lay M) : q_ln M 123 = 640 := (h.2.1 (123, 14, 640) (List.mem_of_getElem? (i := 123) rfl)).2
theorem lk124 {M : qM} (h : q_lay M) : q_kd M 124 = 16 := (h.2.1 (124, 16, 640) (List.mem_of_getElem? (i := 124) rfl)).1
theorem ll124 {M : qM} (h : q_lay M) : q_ln M 124 = 640 := (h.2.1 (124, 16, 640) (List.mem_of_getElem? (i := 124) rfl)).2
theorem lk125 {M : qM} (h : q_lay M) : q_kd M 125 = 14 := (h.2.1 (125, 14, 2100) (List.mem_of_getElem? (i := 125) rfl)).1
theorem ll125 {M : qM} (h : q_lay M) : q_ln M 125 = 2100 := (h.2.1 (125, 14, 2100) (List.mem_of_getElem? (i := 125) rfl)).2
theorem lr0_0 {M : qM} (h : q_lay M) : q_rf M 0 0 = 1 := h.2.2 (0, 0, 1) (List.mem_of_getElem? (i := 0) rfl)
theorem lr0_1 {M : qM} (h : q_lay M) : q_rf M 0 1 = 3 := h.2.2 (0, 1, 3) (List.mem_of_getElem? (i := 1) rfl)
theorem lr0_2 {M : qM} (h : q_lay M) : q_rf M 0 2 = 13 := h.2.2 (0, 2, 13) (List.mem_of_getElem? (i := 2) rfl)
theorem lr0_4 {M : qM} (h : q_lay M) : q_rf M 0 4 = 14 := h.2.2 (0, 4, 14) (List.mem_of_getElem? (i := 3) rfl)
theorem lr0_5 {M : qM} (h : q_lay M) : q_rf M 0 5 = 15 := h.2.2 (0, 5, 15) (List.mem_of_getElem? (i := 4) rfl)
theorem lr0_6 {M : qM} (h : q_lay M) : q_rf M 0 6 = 18 := h.2.2 (0, 6, 18) (List.mem_of_getElem? (i := 5) rfl)
theorem lr0_9 {M : qM} (h : q_lay M) : q_rf M 0 9 = 19 := h.2.2 (0, 9, 19) (List.mem_of_getElem? (i := 6) rfl)
theorem lr0_10 {M : qM} (h : q_lay M) : q_rf M 0 10 = 21 := h.2.2 (0, 10, 21) (List.mem_of_getElem? (i := 7) rfl)
theorem lr0_11 {M : qM} (h : q_lay M) : q_rf M 0 11 = 64 := h.2.2 (0, 11, 64) (List.mem_of_getElem? (i := 8) rfl)
theorem lr1_0 {M : qM} (h : q_lay M) : q_rf M 1 0 = 2 := h.2.2 (1, 0, 2) (List.mem_of_getElem? (i := 9) rfl)
theorem lr3_0 {M : qM} (h : q_lay M) : q_rf M 3 0 = 4 := h.2.2 (3, 0, 4) (List.mem_of_getElem? (i := 10) rfl)
theorem lr3_1 {M : qM} (h : q_lay M) : q_rf M 3 1 = 5 := h.2.2 (3, 1, 5) (List.mem_of_getElem? (i := 11) rfl)
theorem lr3_2 {M : qM} (h : q_lay M) : q_rf M 3 2 = 6 := h.2.2 (3, 2, 6) (List.mem_of_getElem? (i := 12) rfl)
theorem lr3_3 {M : qM} (h : q_lay M) : q_rf M 3 3 = 7 := h.2.2 (3, 3, 7) (List.mem_of_getElem? (i := 13) rfl)
theorem lr3_4 {M : qM} (h : q_lay M) : q_rf M 3 4 = 8 := h.2.2 (3, 4, 8) (List.mem_of_getElem? (i := 14) rfl)
theorem lr3_5 {M : qM} (h : q_lay M) : q_rf M 3 5 = 9 := h.2.2 (3, 5, 9) (List.mem_of_getElem? (i := 15) rfl)
theorem lr3_6 {M : qM} (h : q_lay M) : q_rf M 3 6 = 10 := h.2.2 (3, 6, 10) (List.mem_of_getElem? (i := 16) rfl)
theorem lr3_7 {M : qM} (h : q_lay M) : q_rf M 3 7 = 11 := h.2.2 (3, 7, 11) (List.mem_of_getElem? (i := 17) rfl)
theorem lr3_8 {M : qM} (h : q_lay M) : q_rf M 3 8 = 12 := h.2.2 (3, 8, 12) (List.mem_of_getElem? (i := 18) rfl)
theorem lr15_0 {M : qM} (h : q_lay M) : q_rf M 15 0 = 16 := h.2.2 (15, 0, 16) (List.mem_of_getElem? (i := 19) rfl)
theorem lr15_1 {M : qM} (h : q_lay M) : q_rf M 15 1 = 17 := h.2.2 (15, 1, 17) (List.mem_of_getElem? (i := 20) rfl)
theorem lr19_0 {M : qM} (h : q_lay M) : q_rf M 19 0 = 20 := h.2.2 (19, 0, 20) (List.mem_of_getElem? (i := 21) rfl)
theorem lr21_0 {M : qM} (h : q_lay M) : q_rf M 21 0 = 22 := h.2.2 (21, 0, 22) (List.mem_of_getElem? (i := 22) rfl)
theorem lr21_1 {M : qM} (h : q_lay M) : q_rf M 21 1 = 23 := h.2.2 (21, 1, 23) (List.mem_of_getElem? (i := 23) rfl)
theorem lr23_0 {M : qM} (h : q_lay M) : q_rf M 23 0 = 24 := h.2.2 (23, 0, 24) (List.mem_of_getElem? (i := 24) rfl)
theorem lr23_1 {M : qM} (h : q_lay M) : q_rf M 23 1 = 26 := h.2.2 (23, 1, 26) (List.mem_of_getElem? (i := 25) rfl)
theorem lr23_2 {M : qM} (h : q_lay M) : q_rf M 23 2 = 28 := h.2.2 (23, 2, 28) (List.mem_of_getElem? (i := 26) rfl)
theorem lr23_3 {M : qM} (h : q_lay M) : q_rf M 23 3 = 30 := h.2.2 (23, 3, 30) (List.mem_of_getElem? (i := 27) rfl)
theorem lr23_4 {M : qM} (h : q_lay M) : q_rf M 23 4 = 32 := h.2.2 (23, 4, 32) (List.mem_of_getElem? (i := 28) rfl)
theorem lr23_5 {M : qM} (h : q_lay M) : q_rf M 23 5 = 34 := h.2.2 (23, 5, 34) (List.mem_of_getElem? (i := 29) rfl)
theorem lr23_6 {M : qM} (h : q_lay M) : q_rf M 23 6 = 36 := h.2.2 (23, 6, 36) (List.mem_of_getElem? (i := 30) rfl)
theorem lr23_7 {M : qM} (h : q_lay M) : q_rf M 23 7 = 38 := h.2.2 (23, 7, 38) (List.mem_of_getElem? (i := 31) rfl)
theorem lr23_8 {M : qM} (h : q_lay M) : q_rf M 23 8 = 40 := h.2.2 (23, 8, 40) (List.mem_of_getElem? (i := 32) rfl)
theorem lr23_9 {M : qM} (h : q_lay M) : q_rf M 23 9 = 42 := h.2.2 (23, 9, 42) (List.mem_of_getElem? (i := 33) rfl)
theorem lr23_10 {M : qM} (h : q_lay M) : q_rf M 23 10 = 44 := h.2.2 (23, 10, 44) (List.mem_of_getElem? (i := 34) rfl)
theorem lr23_11 {M : qM} (h : q_lay M) : q_rf M 23 11 = 46 := h.2.2 (23, 11, 46) (List.mem_of_getElem? (i := 35) rfl)
theorem lr23_12 {M : qM} (h : q_lay M) : q_rf M 23 12 = 48 := h.2.2 (23, 12, 48) (List.mem_of_getElem? (i := 36) rfl)
theorem lr23_13 {M : qM} (h : q_lay M) : q_rf M 23 13 = 50 := h.2.2 (23, 13, 50) (List.mem_of_getElem? (i := 37) rfl)
theorem lr23_14 {M : qM} (h : q_lay M) : q_rf M 23 14 = 52 := h.2.2 (23, 14, 52) (List.mem_of_getElem? (i := 38) rfl)
theorem lr23_15 {M : qM} (h : q_lay M) : q_rf M 23 15 = 54 := h.2.2 (23, 15, 54) (List.mem_of_getElem? (i := 39) rfl)
theorem lr23_16 {M : qM} (h : q_lay M) : q_rf M 23 16 = 56 := h.2.2 (23, 16, 56) (List.mem_of_getElem? (i := 40) rfl)
theorem lr23_17 {M : qM} (h : q_lay M) : q_rf M 23 17 = 58 := h.2.2 (23, 17, 58) (List.mem_of_getElem? (i := 41) rfl)
theorem lr23_18 {M : qM} (h : q_lay M) : q_rf M 23 18 = 60 := h.2.2 (23, 18, 60) (List.mem_of_getElem? (i := 42) rfl)
theorem lr23_19 {M : qM} (h : q_lay M) : q_rf M 23 19 = 62 := h.2.2 (23, 19, 62) (List.mem_of_getElem? (i := 43) rfl)
theorem lr24_0 {M : qM} (h : q_lay M) : q_rf M 24 0 = 25 := h.2.2 (24, 0, 25) (List.mem_of_getElem? (i := 44) rfl)
theorem lr26_0 {M : qM} (h : q_lay M) : q_rf M 26 0 = 27 := h.2.2 (26, 0, 27) (List.mem_of_getElem? (i := 45) rfl)
theorem lr28_0 {M : qM} (h : q_lay M) : q_rf M 28 0 = 29 := h.2.2 (28, 0, 29) (List.mem_of_getElem? (i := 46) rfl)
theorem lr30_0 {M : qM} (h : q_lay M) : q_rf M 30 0 = 31 := h.2.2 (30, 0, 31) (List.mem_of_getElem? (i := 47) rfl)
theorem lr32_0 {M : qM} (h : q_lay M) : q_rf M 32 0 = 33 := h.2.2 (32, 0, 33) (List.mem_of_getElem? (i := 48) rfl)
theorem lr34_0 {M : qM} (h : q_lay M) : q_rf M 34 0 = 35 := h.2.2 (34, 0, 35) (List.mem_of_getElem? (i := 49) rfl)
theorem lr36_0 {M : qM} (h : q_lay M) : q_rf M 36 0 = 37 := h.2.2 (36, 0, 37) (List.mem_of_getElem? (i := 50) rfl)
theorem lr38_0 {M : qM} (h : q_lay M) : q_rf M 38 0 = 39 := h.2.2 (38, 0, 39) (List.mem_of_getElem? (i := 51) rfl)
theorem lr40_0 {M : qM} (h : q_lay M) : q_rf M 40 0 = 41 := h.2.2 (40, 0, 41) (List.mem_of_getElem? (i := 52) rfl)
theorem lr42_0 {M : qM} (h : q_lay M) : q_rf M 42 0 = 43 := h.2.2 (42, 0, 43) (List.mem_of_getElem? (i := 53) rfl)
theorem lr44_0 {M : qM} (h : q_lay M) : q_rf M 44 0 = 45 := h.2.2 (44, 0, 45) (List.mem_of_getElem? (i := 54) rfl)
theorem lr46_0 {M : qM} (h : q_lay M) : q_rf M 46 0 = 47 := h.2.2 (46, 0, 47) (List.mem_of_getElem? (i := 55) rfl)
theorem lr48_0 {M : qM} (h : q_lay M) : q_rf M 48 0 = 49 := h.2.2 (48, 0, 49) (List.mem_of_getElem? (i := 56) rfl)
theorem lr50_0 {M : qM} (h : q_lay M) : q_rf M 50 0 = 51 := h.2.2 (50, 0, 51) (List.mem_of_getElem? (i := 57) rfl)
theorem lr52_0 {M : qM} (h : q_lay M) : q_rf M 52 0 = 53 := h.2.2 (52, 0, 53) (List.mem_of_getElem? (i := 58) rfl)
theorem lr54_0 {M : qM} (h : q_lay M) : q_rf M 54 0 = 55 := h.2.2 (54, 0, 55) (List.mem_of_getElem? (i := 59) rfl)
theorem lr56_0 {M : qM} (h : q_lay M) : q_rf M 56 0 = 57 := h.2.2 (56, 0, 57) (List.mem_of_getElem? (i := 60) rfl)
theorem lr58_0 {M : qM} (h : q_lay M) : q_rf M 58 0 = 59 := h.2.2 (58, 0, 59) (List.mem_of_getElem? (i := 61) rfl)
theorem lr60_0 {M : qM} (h : q_lay M) : q_rf M 60 0 = 61 := h.2.2 (60, 0, 61) (List.mem_of_getElem? (i := 62) rfl)
theorem lr62_0 {M : qM} (h : q_lay M) : q_rf M 62 0 = 63 := h.2.2 (62, 0, 63) (List.mem_of_getElem? (i := 63) rfl)
theorem lr64_0 {M : qM} (h : q_lay M) : q_rf M 64 0 = 65 := h.2.2 (64, 0, 65) (List.mem_of_getElem? (i := 64) rfl)
theorem lr66_0 {M : qM} (h : q_lay M) : q_rf M 66 0 = 67 := h.2.2 (66, 0, 67) (List.mem_of_getElem? (i := 65) rfl)
theorem lr66_9 {M : qM} (h : q_lay M) : q_rf M 66 9 = 68 := h.2.2 (66, 9, 68) (List.mem_of_getElem? (i := 66) rfl)
theorem lr66_10 {M : qM} (h : q_lay M) : q_rf M 66 10 = 69 := h.2.2 (66, 10, 69) (List.mem_of_getElem? (i := 67) rfl)
theorem lr66_11 {M : qM} (h : q_lay M) : q_rf M 66 11 = 70 := h.2.2 (66, 11, 70) (List.mem_of_getElem? (i := 68) rfl)
theorem lr66_12 {M : qM} (h : q_lay M) : q_rf M 66 12 = 71 := h.2.2 (66, 12, 71) (List.mem_of_getElem? (i := 69) rfl)
theorem lr66_13 {M : qM} (h : q_lay M) : q_rf M 66 13 = 72 := h.2.2 (66, 13, 72) (List.mem_of_getElem? (i := 70) rfl)
theorem lr66_14 {M : qM} (h : q_lay M) : q_rf M 66 14 = 73 := h.2.2 (66, 14, 73) (List.mem_of_getElem? (i := 71) rfl)
theorem lr66_15 {M : qM} (h : q_lay M) : q_rf M 66 15 = 74 := h.2.2 (66, 15, 74) (List.mem_of_getElem? (i := 72) rfl)
theorem lr66_16 {M : qM} (h : q_lay M) : q_rf M 66 16 = 75 := h.2.2 (66, 16, 75) (List.mem_of_getElem? (i := 73) rfl)
theorem lr66_17 {M : qM} (h : q_lay M) : q_rf M 66 17 = 76 := h.2.2 (66, 17, 76) (List.mem_of_getElem? (i := 74) rfl)
theorem lr66_18 {M : qM} (h : q_lay M) : q_rf M 66 18 = 77 := h.2.2 (66, 18, 77) (List.mem_of_getElem? (i := 75) rfl)
theorem lr66_19 {M : qM} (h : q_lay M) : q_rf M 66 19 = 78 := h.2.2 (66, 19, 78) (List.mem_of_getElem? (i := 76) rfl)
theorem lr66_20 {M : qM} (h : q_lay M) : q_rf M 66 20 = 79 := h.2.2 (66, 20, 79) (List.mem_of_getElem? (i := 77) rfl)
theorem lr66_21 {M : qM} (h : q_lay M) : q_rf M 66 21 = 80 := h.2.2 (66, 21, 80) (List.mem_of_getElem? (i := 78) rfl)
theorem lr66_22 {M : qM} (h : q_lay M) : q_rf M 66 22 = 81 := h.2.2 (66, 22, 81) (List.mem_of_getElem? (i := 79) rfl)
theorem lr66_23 {M : qM} (h : q_lay M) : q_rf M 66 23 = 82 := h.2.2 (66, 23, 82) (List.mem_of_getElem? (i := 80) rfl)
theorem lr66_24 {M : qM} (h : q_lay M) : q_rf M 66 24 = 83 := h.2.2 (66, 24, 83) (List.mem_of_getElem? (i := 81) rfl)
theorem lr66_25 {M : qM} (h : q_lay M) : q_rf M 66 25 = 84 := h.2.2 (66, 25, 84) (List.mem_of_getElem? (i := 82) rfl)
theorem lr66_26 {M : qM} (h : q_lay M) : q_rf M 66 26 = 85 := h.2.2 (66, 26, 85) (List.mem_of_getElem? (i := 83) rfl)
theorem lr66_27 {M : qM} (h : q_lay M) : q_rf M 66 27 = 86 := h.2.2 (66, 27, 86) (List.mem_of_getElem? (i := 84) rfl)
theorem lr66_28 {M : qM} (h : q_lay M) : q_rf M 66 28 = 87 := h.2.2 (66, 28, 87) (List.mem_of_getElem? (i := 85) rfl)
theorem lr66_29 {M : qM} (h : q_lay M) : q_rf M 66 29 = 88 := h.2.2 (66, 29, 88) (List.mem_of_getElem? (i := 86) rfl)
theorem lr66_30 {M : qM} (h : q_lay M) : q_rf M 66 30 = 89 := h.2.2 (66, 30, 89) (List.mem_of_getElem? (i := 87) rfl)
theorem lr66_31 {M : qM} (h : q_lay M) : q_rf M 66 31 = 90 := h.2.2 (66, 31, 90) (List.mem_of_getElem? (i := 88) rfl)
theorem lr66_32 {M : qM} (h : q_lay M) : q_rf M 66 32 = 91 := h.2.2 (66, 32, 91) (List.mem_of_getElem? (i := 89) rfl)
theorem lr66_34 {M : qM} (h : q_lay M) : q_rf M 66 34 = 92 := h.2.2 (66, 34, 92) (List.mem_of_getElem? (i := 90) rfl)
theorem lr66_35 {M : qM} (h : q_lay M) : q_rf M 66 35 = 93 := h.2.2 (66, 35, 93) (List.mem_of_getElem? (i := 91) rfl)
theorem lr66_36 {M : qM} (h : q_lay M) : q_rf M 66 36 = 94 := h.2.2 (66, 36, 94) (List.mem_of_getElem? (i := 92) rfl)
theorem lr66_37 {M : qM} (h : q_lay M) : q_rf M 66 37 = 95 := h.2.2 (66, 37, 95) (List.mem_of_getElem? (i := 93) rfl)
theorem lr66_38 {M : qM} (h : q_lay M) : q_rf M 66 38 = 96 := h.2.2 (66, 38, 96) (List.mem_of_getElem? (i := 94) rfl)
theorem lr66_39 {M : qM} (h : q_lay M) : q_rf M 66 39 = 97 := h.2.2 (66, 39, 97) (List.mem_of_getElem? (i := 95) rfl)
theorem lr66_41 {M : qM} (h : q_lay M) : q_rf M 66 41 = 98 := h.2.2 (66, 41, 98) (List.mem_of_getElem? (i := 96) rfl)
theorem lr66_42 {M : qM} (h : q_lay M) : q_rf M 66 42 = 99 := h.2.2 (66, 42, 99) (List.mem_of_getElem? (i := 97) rfl)
theorem lr66_43 {M : qM} (h : q_lay M) : q_rf M 66 43 = 100 := h.2.2 (66, 43, 100) (List.mem_of_getElem? (i := 98) rfl)
theorem lr66_44 {M : qM} (h : q_lay M) : q_rf M 66 44 = 101 := h.2.2 (66, 44, 101) (List.mem_of_getElem? (i := 99) rfl)
theorem lr66_45 {M : qM} (h : q_lay M) : q_rf M 66 45 = 102 := h.2.2 (66, 45, 102) (List.mem_of_getElem? (i := 100) rfl)
theorem lr66_46 {M : qM} (h : q_lay M) : q_rf M 66 46 = 103 := h.2.2 (66, 46, 103) (List.mem_of_getElem? (i := 101) rfl)
theorem lr66_47 {M : qM} (h : q_lay M) : q_rf M 66 47 = 104 := h.2.2 (66, 47, 104) (List.mem_of_getElem? (i := 102) rfl)
theorem lr66_48 {M : qM} (h : q_lay M) : q_rf M 66 48 = 105 := h.2.2 (66, 48, 105) (List.mem_of_getElem? (i := 103) rfl)
theorem lr66_49 {M : qM} (h : q_lay M) : q_rf M 66 49 = 106 := h.2.2 (66, 49, 106) (List.mem_of_getElem? (i := 104) rfl)
theorem lr66_51 {M : qM} (h : q_lay M) : q_rf M 66 51 = 107 := h.2.2 (66, 51, 107) (List.mem_of_getElem? (i := 105) rfl)
theorem lr66_57 {M : qM} (h : q_lay M) : q_rf M 66 57 = 108 := h.2.2 (66, 57, 108) (List.mem_of_getElem? (i := 106) rfl)
theorem lr66_58 {M : qM} (h : q_lay M) : q_rf M 66 58 = 109 := h.2.2 (66, 58, 109) (List.mem_of_getElem? (i := 107) rfl)
theorem lr66_59 {M : qM} (h : q_lay M) : q_rf M 66 59 = 110 := h.2.2 (66, 59, 110) (List.mem_of_getElem? (i := 108) rfl)
theorem lr66_60 {M : qM} (h : q_lay M) : q_rf M 66 60 = 111 := h.2.2 (66, 60, 111) (List.mem_of_getElem? (i := 109) rfl)
theorem lr66_61 {M : qM} (h : q_lay M) : q_rf M 66 61 = 112 := h.2.2 (66, 61, 112) (List.mem_of_getElem? (i := 110) rfl)
theorem lr66_62 {M : qM} (h : q_lay M) : q_rf M 66 62 = 113 := h.2.2 (66, 62, 113) (List.mem_of_getElem? (i := 111) rfl)
theorem lr66_63 {M : qM} (h : q_lay M) : q_rf M 66 63 = 114 := h.2.2 (66, 63, 114) (List.mem_of_getElem? (i := 112) rfl)
theorem lr66_64 {M : qM} (h : q_lay M) : q_rf M 66 64 = 115 := h.2.2 (66, 64, 115) (List.mem_of_getElem? (i := 113) rfl)
theorem lr66_66 {M : qM} (h : q_lay M) : q_rf M 66 66 = 116 := h.2.2 (66, 66, 116) (List.mem_of_getElem? (i := 114) rfl)
theorem lr66_68 {M : qM} (h : q_lay M) : q_rf M 66 68 = 117 := h.2.2 (66, 68, 117) (List.mem_of_getElem? (i := 115) rfl)
theorem lr66_70 {M : qM} (h : q_lay M) : q_rf M 66 70 = 118 := h.2.2 (66, 70, 118) (List.mem_of_getElem? (i := 116) rfl)
theorem lr66_72 {M : qM} (h : q_lay M) : q_rf M 66 72 = 119 := h.2.2 (66, 72, 119) (List.mem_of_getElem? (i := 117) rfl)
theorem lr66_74 {M : qM} (h : q_lay M) : q_rf M 66 74 = 120 := h.2.2 (66, 74, 120) (List.mem_of_getElem? (i := 118) rfl)
theorem lr66_75 {M : qM} (h : q_lay M) : q_rf M 66 75 = 121 := h.2.2 (66, 75, 121) (List.mem_of_getElem? (i := 119) rfl)
theorem lr66_76 {M : qM} (h : q_lay M) : q_rf M 66 76 = 122 := h.2.2 (66, 76, 122) (List.mem_of_getElem? (i := 120) rfl)
theorem lr66_78 {M : qM} (h : q_lay M) : q_rf M 66 78 = 123 := h.2.2 (66, 78, 123) (List.mem_of_getElem? (i := 121) rfl)
theorem lr66_79 {M : qM} (h : q_lay M) : q_rf M 66 79 = 124 := h.2.2 (66, 79, 124) (List.mem_of_getElem? (i := 122) rfl)
theorem lr66_80 {M : qM} (h : q_lay M) : q_rf M 66 80 = 125 := h.2.2 (66, 80, 125) (List.mem_of_getElem? (i := 123) rfl)
end
