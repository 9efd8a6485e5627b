section
theorem t_98_0 {d : Nat} {P : Int → qM → Prop} {x1 : Int} {M : qM} {c s : Nat} (hl : q_lay M) (h : ((x1 < 0 → (P (0 : Int) M)) ∧ (0 ≤ x1 → ((x1 ≤ (q_nm M 1 1) → (∀ M1 : qM, M1 = q_wn M 1 1 x1 → q_lay M1 → (P (1 : Int) M1))) ∧ ((q_nm M 1 1) < x1 → (P (0 : Int) M)))))) : q_At q_m98 (q_WP q_Pr d) P 0 [(0, .inr (.inr 0)), (1, .inl x1)] [] M c s := by
  refine s_98_0 ?_
  rw [lk0 hl, lr0_0 hl, lk1 hl]
  refine ⟨?_, ?_⟩
  · replace h := h.1
    intro g
    replace h := h g
    refine ⟨⟨by decide, by decide⟩, ?_⟩
    exact h
  · replace h := h.2
    intro g
    replace h := h g
    refine ⟨rfl, ?_⟩
    refine ⟨rfl, ?_⟩
    refine ⟨?_, ?_⟩
    · replace h := h.1
      intro g
      replace h := h g
      refine ⟨rfl, ?_⟩
      refine ⟨rfl, ?_⟩
      intro M1
      have hlM1 : q_lay M1 := q_lay_wn hl
      replace h := h M1 rfl hlM1
      refine ⟨⟨by decide, by decide⟩, ?_⟩
      exact h
    · replace h := h.2
      intro g
      replace h := h g
      refine ⟨⟨by decide, by decide⟩, ?_⟩
      exact h
theorem t_99_0 {d : Nat} {P : Int → qM → Prop} {x1 x2 x3 : Int} {M : qM} {c s : Nat} (hl : q_lay M) (h : ((x1 < 0 → (q_At q_m99 (q_WP q_Pr d) P 35 [(0, .inr (.inr 0)), (1, .inl x1), (2, .inl x2), (3, .inl x3)] [.inl (0 : Int)] M c s)) ∧ (0 ≤ x1 → (((5 : Int) ≤ x1 → (q_At q_m99 (q_WP q_Pr d) P 35 [(0, .inr (.inr 0)), (1, .inl x1), (2, .inl x2), (3, .inl x3)] [.inl (0 : Int)] M c s)) ∧ (x1 < (5 : Int) → ((x2 < 0 → (q_At q_m99 (q_WP q_Pr d) P 35 [(0, .inr (.inr 0)), (1, .inl x1), (2, .inl x2), (3, .inl x3)] [.inl (0 : Int)] M c s)) ∧ (0 ≤ x2 → (((10 : Int) ≤ x2 → (q_At q_m99 (q_WP q_Pr d) P 35 [(0, .inr (.inr 0)), (1, .inl x1), (2, .inl x2), (3, .inl x3)] [.inl (0 : Int)] M c s)) ∧ (x2 < (10 : Int) → ((x3 < (1 : Int) → (q_At q_m99 (q_WP q_Pr d) P 35 [(0, .inr (.inr 0)), (1, .inl x1), (2, .inl x2), (3, .inl x3)] [.inl (0 : Int)] M c s)) ∧ ((1 : Int) ≤ x3 → (((99 : Int) < x3 → (q_At q_m99 (q_WP q_Pr d) P 35 [(0, .inr (.inr 0)), (1, .inl x1), (2, .inl x2), (3, .inl x3)] [.inl (0 : Int)] M c s)) ∧ (x3 ≤ (99 : Int) → (q_At q_m99 (q_WP q_Pr d) P 35 [(0, .inr (.inr 0)), (1, .inl x1), (2, .inl x2), (3, .inl x3)] [.inl (1 : Int)] M c s)))))))))))))) : q_At q_m99 (q_WP q_Pr d) P 0 [(0, .inr (.inr 0)), (1, .inl x1), (2, .inl x2), (3, .inl x3)] [] M c s := by
  refine s_99_0 ?_
  refine ⟨?_, ?_⟩
  · replace h := h.1
    intro g
    replace h := h g
    exact h
  · replace h := h.2
    intro g
    replace h := h g
    refine ⟨?_, ?_⟩
    · replace h := h.1
      intro g
      replace h := h g
      exact h
    · replace h := h.2
      intro g
      replace h := h g
      refine ⟨?_, ?_⟩
      · replace h := h.1
        intro g
        replace h := h g
        exact h
      · replace h := h.2
        intro g
        replace h := h g
        refine ⟨?_, ?_⟩
        · replace h := h.1
          intro g
          replace h := h g
          exact h
        · replace h := h.2
          intro g
          replace h := h g
          refine ⟨?_, ?_⟩
          · replace h := h.1
            intro g
            replace h := h g
            exact h
          · replace h := h.2
            intro g
            replace h := h g
            refine ⟨?_, ?_⟩
            · replace h := h.1
              intro g
              replace h := h g
              exact h
            · replace h := h.2
              intro g
              replace h := h g
              exact h
theorem t_99_35 {d : Nat} {P : Int → qM → Prop} {x1 x2 x3 y0 : Int} {M : qM} {c s : Nat} (hl : q_lay M) (h : ((y0 = 0 → (q_At q_m99 (q_WP q_Pr d) P 60 [(0, .inr (.inr 0))] [.inl (-1 : Int)] M c s)) ∧ (¬ y0 = 0 → q_WP q_Pr d 80 [.inr (.inr 3), .inr (.inr 1), .inl x1, .inl x2, .inl x3] M (fun v1 M2 => q_lay M2 ∧ (q_At q_m99 (q_WP q_Pr d) P 60 [(0, .inr (.inr 0))] [.inl v1] M2 c s))))) : q_At q_m99 (q_WP q_Pr d) P 35 [(0, .inr (.inr 0)), (1, .inl x1), (2, .inl x2), (3, .inl x3)] [.inl y0] M c s := by
  refine s_99_35 ?_
  rw [lk0 hl, lr0_1 hl, lk3 hl, lr0_0 hl]
  refine ⟨?_, ?_⟩
  · replace h := h.1
    intro g
    replace h := h g
    exact h
  · replace h := h.2
    intro g
    replace h := h g
    refine ⟨rfl, ?_⟩
    refine ⟨rfl, ?_⟩
    refine ⟨rfl, ?_⟩
    refine q_WP_mono _ _ _ _ _ _ (fun v1 M2 hh => ?_) h
    obtain ⟨hlM2, h⟩ := hh
    exact h
theorem t_99_60 {d : Nat} {P : Int → qM → Prop} {y0 : Int} {M : qM} {c s : Nat} (hl : q_lay M) (h : (∀ M1 : qM, M1 = q_wn M 1 1 (0 : Int) → q_lay M1 → (P y0 M1))) : q_At q_m99 (q_WP q_Pr d) P 60 [(0, .inr (.inr 0))] [.inl y0] M c s := by
  refine s_99_60 ?_
  rw [lk0 hl, lr0_0 hl, lk1 hl]
  refine ⟨rfl, ?_⟩
  refine ⟨rfl, ?_⟩
  intro M1
  have hlM1 : q_lay M1 := q_lay_wn hl
  replace h := h M1 rfl hlM1
  exact h
theorem t_100_0 {d : Nat} {P : Int → qM → Prop} {x1 x2 x3 x4 x5 x6 : Int} {M : qM} {c s : Nat} (hl : q_lay M) (h : ((0 ≤ (6 : Int) ∧ (6 : Int) ≤ 1000000) ∧ (let M1 := q_al M (q_nk .int) (6 : Int); (((c + 1) ≤ 25 ∧ (s + (Int.toNat (6 : Int))) ≤ 10650) ∧ (((0 ≤ (q_top M) ∧ q_kd M1 (q_top M) = 14) ∧ 0 ≤ (0 : Int) ∧ (0 : Int) < q_ln M1 (q_top M)) ∧ (let M2 := q_wn M1 (q_top M) (0 : Int) x1; (((0 ≤ (q_top M) ∧ q_kd M2 (q_top M) = 14) ∧ 0 ≤ (1 : Int) ∧ (1 : Int) < q_ln M2 (q_top M)) ∧ (let M3 := q_wn M2 (q_top M) (1 : Int) x2; (((0 ≤ (q_top M) ∧ q_kd M3 (q_top M) = 14) ∧ 0 ≤ (2 : Int) ∧ (2 : Int) < q_ln M3 (q_top M)) ∧ (let M4 := q_wn M3 (q_top M) (2 : Int) x3; (((0 ≤ (q_top M) ∧ q_kd M4 (q_top M) = 14) ∧ 0 ≤ (3 : Int) ∧ (3 : Int) < q_ln M4 (q_top M)) ∧ (let M5 := q_wn M4 (q_top M) (3 : Int) x4; (((0 ≤ (q_top M) ∧ q_kd M5 (q_top M) = 14) ∧ 0 ≤ (4 : Int) ∧ (4 : Int) < q_ln M5 (q_top M)) ∧ (let M6 := q_wn M5 (q_top M) (4 : Int) x5; (((0 ≤ (q_top M) ∧ q_kd M6 (q_top M) = 14) ∧ 0 ≤ (5 : Int) ∧ (5 : Int) < q_ln M6 (q_top M)) ∧ (let M7 := q_wn M6 (q_top M) (5 : Int) x6; (q_At q_m100 (q_WP q_Pr d) P 36 [(0, .inr (.inr 0)), (7, .inr (.inr (q_top M))), (8, .inl (0 : Int))] [] M7 (c + 1) (s + (Int.toNat (6 : Int)))))))))))))))))))) : q_At q_m100 (q_WP q_Pr d) P 0 [(0, .inr (.inr 0)), (1, .inl x1), (2, .inl x2), (3, .inl x3), (4, .inl x4), (5, .inl x5), (6, .inl x6)] [] M c s := by
  refine s_100_0 ?_
  refine ⟨h.1, ?_⟩
  replace h := h.2
  intro M1
  replace h : _ := h
  refine ⟨h.1, ?_⟩
  replace h := h.2
  refine ⟨h.1, ?_⟩
  replace h := h.2
  intro M2
  replace h : _ := h
  refine ⟨h.1, ?_⟩
  replace h := h.2
  intro M3
  replace h : _ := h
  refine ⟨h.1, ?_⟩
  replace h := h.2
  intro M4
  replace h : _ := h
  refine ⟨h.1, ?_⟩
  replace h := h.2
  intro M5
  replace h : _ := h
  refine ⟨h.1, ?_⟩
  replace h := h.2
  intro M6
  replace h : _ := h
  refine ⟨h.1, ?_⟩
  replace h := h.2
  intro M7
  replace h : _ := h
  exact h
theorem t_100_36 {d : Nat} {P : Int → qM → Prop} {x7 x8 : Int} {M : qM} {c s : Nat} (hl : q_lay M) (h : (((6 : Int) ≤ x8 → (q_At q_m100 (q_WP q_Pr (d + 1)) P 79 [(0, .inr (.inr 0)), (7, .inr (.inr x7)), (8, .inl x8), (9, .inl x8)] [] M c s)) ∧ (x8 < (6 : Int) → ((q_kd M x7 = 14 ∧ 0 ≤ x8 ∧ x8 < q_ln M x7) ∧ (((q_nm M x7 x8) = (-1 : Int) → (q_At q_m100 (q_WP q_Pr (d + 1)) P 79 [(0, .inr (.inr 0)), (7, .inr (.inr x7)), (8, .inl x8), (9, .inl x8)] [] M c s)) ∧ (¬ (q_nm M x7 x8) = (-1 : Int) → ((q_kd M x7 = 14 ∧ 0 ≤ x8 ∧ x8 < q_ln M x7) ∧ ((0 ≤ (q_nm M x7 x8) ∧ (q_nm M x7 x8) < q_nm M 3 9 → (q_At q_m100 (q_WP q_Pr (d + 1)) P 36 [(0, .inr (.inr 0)), (7, .inr (.inr x7)), (8, .inl (w32 (x8 + 1)))] [] M c s)) ∧ (¬ (0 ≤ (q_nm M x7 x8) ∧ (q_nm M x7 x8) < q_nm M 3 9) → (P (-1 : Int) M)))))))))) : q_At q_m100 (q_WP q_Pr (d + 1)) P 36 [(0, .inr (.inr 0)), (7, .inr (.inr x7)), (8, .inl x8)] [] M c s := by
  refine s_100_36 ?_
  rw [lk0 hl, lr0_1 hl, lk3 hl]
  refine ⟨?_, ?_⟩
  · replace h := h.1
    intro g
    replace h := h g
    exact h
  · replace h := h.2
    intro g
    replace h := h g
    refine ⟨h.1, ?_⟩
    replace h := h.2
    refine ⟨?_, ?_⟩
    · replace h := h.1
      intro g
      replace h := h g
      exact h
    · replace h := h.2
      intro g
      replace h := h g
      refine ⟨rfl, ?_⟩
      refine ⟨h.1, ?_⟩
      replace h := h.2
      refine ⟨rfl, ?_⟩
      refine p_79 hl (fun g => ?_) (fun g => ?_)
      · replace h := h.1 g
        refine ⟨fun _ => ?_, fun g => absurd g (by decide)⟩
        exact h
      · replace h := h.2 g
        refine ⟨fun g => absurd g (by decide), fun _ => ?_⟩
        exact h
theorem t_100_79 {d : Nat} {P : Int → qM → Prop} {x7 x8 x9 : Int} {M : qM} {c s : Nat} (hl : q_lay M) (h : (((6 : Int) ≤ x9 → ((x8 = 0 → (P (-1 : Int) M)) ∧ (¬ x8 = 0 → (((q_nm M 0 3) < (12 : Int) → (let M1 := q_al M 1 (Int.ofNat (q_ns 1)); (((c + 1) ≤ 25 ∧ (s + q_ns 1) ≤ 10650) ∧ ((q_kd M1 0 = 10) ∧ ((((c + 1) + 1) ≤ 25 ∧ ((s + q_ns 1) + 6) ≤ 10650) ∧ q_WP q_Pr d 263 [.inr (.inr x7), .inl x8] M1 (fun v2 M3 => q_lay M3 ∧ ((q_kd M3 (q_top M) = 1) ∧ (((((c + 1) + 1) + 22) ≤ 25 ∧ (((s + q_ns 1) + 6) + 10622) ≤ 10650) ∧ q_WP q_Pr d 5 [.inr (.inr (q_top M)), .inr (.inr (q_rf M1 0 1)), .inr (.inr v2)] M3 (fun v4 M5 => q_lay M5 ∧ ((17 = q_ak (q_kd M5 (q_top M)) ∧ 0 ≤ (q_nm M 0 3) ∧ (q_nm M 0 3) < 12) ∧ (let M6 := q_wr M5 13 (q_nm M 0 3) (q_top M); ((q_kd M6 0 = 10) ∧ ((q_kd M6 0 = 10) ∧ (let M7 := q_wn M6 0 3 (w32 ((q_nm M6 0 3) + (1 : Int))); ((q_kd M7 0 = 10) ∧ (P (w32 ((q_nm M7 0 3) - (1 : Int))) M7)))))))))))))))) ∧ ((12 : Int) ≤ (q_nm M 0 3) → (P (-1 : Int) M)))))) ∧ (x9 < (6 : Int) → ((q_kd M x7 = 14 ∧ 0 ≤ x9 ∧ x9 < q_ln M x7) ∧ (((q_nm M x7 x9) = (-1 : Int) → (q_At q_m100 (q_WP q_Pr d) P 79 [(0, .inr (.inr 0)), (7, .inr (.inr x7)), (8, .inl x8), (9, .inl (w32 (x9 + 1)))] [] M c s)) ∧ (¬ (q_nm M x7 x9) = (-1 : Int) → (P (-1 : Int) M))))))) : q_At q_m100 (q_WP q_Pr d) P 79 [(0, .inr (.inr 0)), (7, .inr (.inr x7)), (8, .inl x8), (9, .inl x9)] [] M c s := by
  refine s_100_79 ?_
  rw [lk0 hl, lr0_2 hl]
  refine ⟨?_, ?_⟩
  · replace h := h.1
    intro g
    replace h := h g
    refine ⟨?_, ?_⟩
    · replace h := h.1
      intro g
      replace h := h g
      exact h
    · replace h := h.2
      intro g
      replace h := h g
      refine ⟨rfl, ?_⟩
      refine ⟨?_, ?_⟩
      · replace h := h.1
        intro g
        replace h := h g
        refine ⟨rfl, ?_⟩
        refine ⟨rfl, ?_⟩
        intro M1
        replace h : _ := h
        refine ⟨h.1, ?_⟩
        replace h := h.2
        refine ⟨h.1, ?_⟩
        replace h := h.2
        refine ⟨h.1, ?_⟩
        replace h := h.2
        refine q_WP_mono _ _ _ _ _ _ (fun v2 M3 hh => ?_) h
        obtain ⟨hlM3, h⟩ := hh
        refine ⟨h.1, ?_⟩
        replace h := h.2
        refine ⟨h.1, ?_⟩
        replace h := h.2
        refine q_WP_mono _ _ _ _ _ _ (fun v4 M5 hh => ?_) h
        obtain ⟨hlM5, h⟩ := hh
        rw [ll13 hlM5, lk13 hlM5]
        refine ⟨h.1, ?_⟩
        replace h := h.2
        intro M6
        replace h : _ := h
        refine ⟨h.1, ?_⟩
        replace h := h.2
        refine ⟨h.1, ?_⟩
        replace h := h.2
        intro M7
        replace h : _ := h
        refine ⟨h.1, ?_⟩
        replace h := h.2
        exact h
      · replace h := h.2
        intro g
        replace h := h g
        exact h
  · replace h := h.2
    intro g
    replace h := h g
    refine ⟨h.1, ?_⟩
    replace h := h.2
    refine ⟨?_, ?_⟩
    · replace h := h.1
      intro g
      replace h := h g
      exact h
    · replace h := h.2
      intro g
      replace h := h g
      exact h
theorem t_101_0 {d : Nat} {P : Int → qM → Prop} {x1 : Int} {M : qM} {c s : Nat} (hl : q_lay M) (h : (((x1 = 0 → (P (q_nm M 3 9) M)) ∧ ((x1 = 1 → (P (q_nm M 0 3) M)) ∧ ((x1 = 2 → q_WP q_Pr d 137 [.inr (.inr 0)] M (fun v1 M2 => q_lay M2 ∧ (P v1 M2))) ∧ ((x1 = 3 → (P (q_nm M 21 2) M)) ∧ ((x1 = 4 → (P (q_nm M 19 1) M)) ∧ ((x1 = 5 → ((¬ (q_rf M 14 (4 : Int)) = -1 → (P (1 : Int) M)) ∧ ((q_rf M 14 (4 : Int)) = -1 → (P (0 : Int) M)))) ∧ True)))))) ∧ ((x1 < 0 ∨ 5 < x1) → (P (-1 : Int) M)))) : q_At q_m101 (q_WP q_Pr d) P 0 [(0, .inr (.inr 0)), (1, .inl x1)] [] M c s := by
  refine s_101_0 ?_
  rw [lk0 hl, lr0_1 hl, lk3 hl, lr0_10 hl, lk21 hl, lr0_9 hl, lk19 hl, lr0_4 hl, ll14 hl, lk14 hl]
  refine ⟨?_, ?_⟩
  · replace h := h.1
    refine ⟨?_, ?_⟩
    · replace h := h.1
      intro g
      replace h := h g
      refine ⟨rfl, ?_⟩
      refine ⟨rfl, ?_⟩
      exact h
    · replace h := h.2
      refine ⟨?_, ?_⟩
      · replace h := h.1
        intro g
        replace h := h g
        refine ⟨rfl, ?_⟩
        exact h
      · replace h := h.2
        refine ⟨?_, ?_⟩
        · replace h := h.1
          intro g
          replace h := h g
          refine ⟨rfl, ?_⟩
          refine q_WP_mono _ _ _ _ _ _ (fun v1 M2 hh => ?_) h
          obtain ⟨hlM2, h⟩ := hh
          exact h
        · replace h := h.2
          refine ⟨?_, ?_⟩
          · replace h := h.1
            intro g
            replace h := h g
            refine ⟨rfl, ?_⟩
            refine ⟨rfl, ?_⟩
            exact h
          · replace h := h.2
            refine ⟨?_, ?_⟩
            · replace h := h.1
              intro g
              replace h := h g
              refine ⟨rfl, ?_⟩
              refine ⟨rfl, ?_⟩
              exact h
            · replace h := h.2
              refine ⟨?_, ?_⟩
              · replace h := h.1
                intro g
                replace h := h g
                refine ⟨rfl, ?_⟩
                refine ⟨⟨⟨by decide, by decide⟩, ⟨by decide, by decide⟩⟩, ?_⟩
                refine ⟨?_, ?_⟩
                · replace h := h.1
                  intro g
                  replace h := h g
                  exact h
                · replace h := h.2
                  intro g
                  replace h := h g
                  exact h
              · replace h := h.2
                exact trivial
  · replace h := h.2
    intro g
    replace h := h g
    exact h
theorem t_102_0 {d : Nat} {P : Int → qM → Prop} {x1 : Int} {M : qM} {c s : Nat} (hl : q_lay M) (h : ((x1 < 0 → (∀ M1 : qM, M1 = q_wn M 1 1 (0 : Int) → q_lay M1 → (P (-2 : Int) M1))) ∧ (0 ≤ x1 → ((x1 < (4 : Int) → (((c + 10) ≤ 10 ∧ (s + 6399) ≤ 6399) ∧ q_WP q_Pr d 138 [.inr (.inr 0), .inl x1] M (fun v2 M3 => q_lay M3 ∧ (P v2 M3)))) ∧ ((4 : Int) ≤ x1 → (∀ M4 : qM, M4 = q_wn M 1 1 (0 : Int) → q_lay M4 → (P (-2 : Int) M4))))))) : q_At q_m102 (q_WP q_Pr d) P 0 [(0, .inr (.inr 0)), (1, .inl x1)] [] M c s := by
  refine s_102_0 ?_
  rw [lk0 hl, lr0_0 hl, lk1 hl]
  refine ⟨?_, ?_⟩
  · replace h := h.1
    intro g
    replace h := h g
    refine ⟨rfl, ?_⟩
    refine ⟨rfl, ?_⟩
    intro M1
    have hlM1 : q_lay M1 := q_lay_wn hl
    replace h := h M1 rfl hlM1
    exact h
  · replace h := h.2
    intro g
    replace h := h g
    refine ⟨?_, ?_⟩
    · replace h := h.1
      intro g
      replace h := h g
      refine ⟨rfl, ?_⟩
      refine ⟨h.1, ?_⟩
      replace h := h.2
      refine q_WP_mono _ _ _ _ _ _ (fun v2 M3 hh => ?_) h
      obtain ⟨hlM3, h⟩ := hh
      exact h
    · replace h := h.2
      intro g
      replace h := h g
      refine ⟨rfl, ?_⟩
      refine ⟨rfl, ?_⟩
      intro M4
      have hlM4 : q_lay M4 := q_lay_wn hl
      replace h := h M4 rfl hlM4
      exact h
theorem t_103_0 {d : Nat} {P : Int → qM → Prop} {M : qM} {c s : Nat} (hl : q_lay M) (h : (((c + 10) ≤ 10 ∧ (s + 6399) ≤ 6399) ∧ q_WP q_Pr d 138 [.inr (.inr 0), .inl (4 : Int)] M (fun v1 M2 => q_lay M2 ∧ (P v1 M2)))) : q_At q_m103 (q_WP q_Pr d) P 0 [(0, .inr (.inr 0))] [] M c s := by
  refine s_103_0 ?_
  rw [lk0 hl]
  refine ⟨rfl, ?_⟩
  refine ⟨h.1, ?_⟩
  replace h := h.2
  refine q_WP_mono _ _ _ _ _ _ (fun v1 M2 hh => ?_) h
  obtain ⟨hlM2, h⟩ := hh
  exact h
theorem t_104_0 {d : Nat} {P : Int → qM → Prop} {x1 : Int} {M : qM} {c s : Nat} (hl : q_lay M) (h : ((¬ x1 = 0 → ((¬ x1 = (1 : Int) → (P (-1 : Int) M)) ∧ (x1 = (1 : Int) → (P (q_nm M 0 8) M)))) ∧ (x1 = 0 → (P (q_nm M 0 7) M)))) : q_At q_m104 (q_WP q_Pr d) P 0 [(0, .inr (.inr 0)), (1, .inl x1)] [] M c s := by
  refine s_104_0 ?_
  rw [lk0 hl]
  refine ⟨?_, ?_⟩
  · replace h := h.1
    intro g
    replace h := h g
    refine ⟨?_, ?_⟩
    · replace h := h.1
      intro g
      replace h := h g
      exact h
    · replace h := h.2
      intro g
      replace h := h g
      refine ⟨rfl, ?_⟩
      exact h
  · replace h := h.2
    intro g
    replace h := h g
    refine ⟨rfl, ?_⟩
    exact h
theorem t_105_0 {d : Nat} {P : Int → qM → Prop} {x1 : Int} {M : qM} {c s : Nat} (hl : q_lay M) (h : q_WP q_Pr d 139 [.inr (.inr 0), .inl x1] M (fun v1 M2 => q_lay M2 ∧ ((¬ v1 = -1 → ((q_kd M2 v1 = 1) ∧ (P (q_nm M2 v1 3) M2))) ∧ (v1 = -1 → (P (-1 : Int) M2))))) : q_At q_m105 (q_WP q_Pr d) P 0 [(0, .inr (.inr 0)), (1, .inl x1)] [] M c s := by
  refine s_105_0 ?_
  rw [lk0 hl]
  refine ⟨rfl, ?_⟩
  refine q_WP_mono _ _ _ _ _ _ (fun v1 M2 hh => ?_) h
  obtain ⟨hlM2, h⟩ := hh
  refine ⟨?_, ?_⟩
  · replace h := h.1
    intro g
    replace h := h g
    refine ⟨h.1, ?_⟩
    replace h := h.2
    exact h
  · replace h := h.2
    intro g
    replace h := h g
    exact h
theorem t_106_0 {d : Nat} {P : Int → qM → Prop} {x1 x2 x3 : Int} {M : qM} {c s : Nat} (hl : q_lay M) (h : q_WP q_Pr d 139 [.inr (.inr 0), .inl x1] M (fun v1 M2 => q_lay M2 ∧ ((v1 = -1 → (P (-1 : Int) M2)) ∧ (¬ v1 = -1 → ((q_kd M2 v1 = 1) ∧ q_WP q_Pr d 6 [.inr (.inr v1), .inl x2] M2 (fun v3 M4 => q_lay M4 ∧ ((¬ v3 = 0 → (((x3 = 0 → ((q_kd M4 v1 = 1) ∧ (((q_kd M4 (q_rf M4 v1 4) = 12 ∨ q_kd M4 (q_rf M4 v1 4) = 16) ∧ 0 ≤ x2 ∧ x2 < q_ln M4 (q_rf M4 v1 4)) ∧ (P (q_nm M4 (q_rf M4 v1 4) x2) M4)))) ∧ ((x3 = 1 → ((q_kd M4 v1 = 1) ∧ (((q_kd M4 (q_rf M4 v1 5) = 12 ∨ q_kd M4 (q_rf M4 v1 5) = 16) ∧ 0 ≤ x2 ∧ x2 < q_ln M4 (q_rf M4 v1 5)) ∧ (P (q_nm M4 (q_rf M4 v1 5) x2) M4)))) ∧ ((x3 = 2 → ((q_kd M4 v1 = 1) ∧ (((q_kd M4 (q_rf M4 v1 6) = 12 ∨ q_kd M4 (q_rf M4 v1 6) = 16) ∧ 0 ≤ x2 ∧ x2 < q_ln M4 (q_rf M4 v1 6)) ∧ (P (q_nm M4 (q_rf M4 v1 6) x2) M4)))) ∧ ((x3 = 3 → ((q_kd M4 v1 = 1) ∧ (((q_kd M4 (q_rf M4 v1 8) = 12 ∨ q_kd M4 (q_rf M4 v1 8) = 16) ∧ 0 ≤ x2 ∧ x2 < q_ln M4 (q_rf M4 v1 8)) ∧ (((q_nm M4 (q_rf M4 v1 8) x2) = 0 → (P (0 : Int) M4)) ∧ (¬ (q_nm M4 (q_rf M4 v1 8) x2) = 0 → (P (1 : Int) M4)))))) ∧ ((x3 = 4 → q_WP q_Pr d 142 [.inr (.inr 0), .inr (.inr v1), .inl (4 : Int)] M4 (fun v5 M6 => q_lay M6 ∧ ((q_kd M6 v1 = 1) ∧ (((17 ≤ q_kd M6 (q_rf M6 v1 14) ∧ q_kd M6 (q_rf M6 v1 14) ≤ 20) ∧ 0 ≤ (4 : Int) ∧ (4 : Int) < q_ln M6 (q_rf M6 v1 14)) ∧ ((q_kd M6 (q_rf M6 (q_rf M6 v1 14) (4 : Int)) = 14 ∧ 0 ≤ x2 ∧ x2 < q_ln M6 (q_rf M6 (q_rf M6 v1 14) (4 : Int))) ∧ (P (q_nm M6 (q_rf M6 (q_rf M6 v1 14) (4 : Int)) x2) M6)))))) ∧ ((x3 = 5 → ((q_kd M4 v1 = 1) ∧ (((q_kd M4 (q_rf M4 v1 7) = 12 ∨ q_kd M4 (q_rf M4 v1 7) = 16) ∧ 0 ≤ x2 ∧ x2 < q_ln M4 (q_rf M4 v1 7)) ∧ (P (q_nm M4 (q_rf M4 v1 7) x2) M4)))) ∧ True)))))) ∧ ((x3 < 0 ∨ 5 < x3) → (P (-1 : Int) M4)))) ∧ (v3 = 0 → (P (-1 : Int) M4))))))))) : q_At q_m106 (q_WP q_Pr d) P 0 [(0, .inr (.inr 0)), (1, .inl x1), (2, .inl x2), (3, .inl x3)] [] M c s := by
  refine s_106_0 ?_
  rw [lk0 hl]
  refine ⟨rfl, ?_⟩
  refine q_WP_mono _ _ _ _ _ _ (fun v1 M2 hh => ?_) h
  obtain ⟨hlM2, h⟩ := hh
  refine ⟨?_, ?_⟩
  · replace h := h.1
    intro g
    replace h := h g
    exact h
  · replace h := h.2
    intro g
    replace h := h g
    refine ⟨h.1, ?_⟩
    replace h := h.2
    refine q_WP_mono _ _ _ _ _ _ (fun v3 M4 hh => ?_) h
    obtain ⟨hlM4, h⟩ := hh
    rw [lk0 hlM4]
    refine ⟨?_, ?_⟩
    · replace h := h.1
      intro g
      replace h := h g
      refine ⟨?_, ?_⟩
      · replace h := h.1
        refine ⟨?_, ?_⟩
        · replace h := h.1
          intro g
          replace h := h g
          refine ⟨h.1, ?_⟩
          replace h := h.2
          refine ⟨h.1, ?_⟩
          replace h := h.2
          exact h
        · replace h := h.2
          refine ⟨?_, ?_⟩
          · replace h := h.1
            intro g
            replace h := h g
            refine ⟨h.1, ?_⟩
            replace h := h.2
            refine ⟨h.1, ?_⟩
            replace h := h.2
            exact h
          · replace h := h.2
            refine ⟨?_, ?_⟩
            · replace h := h.1
              intro g
              replace h := h g
              refine ⟨h.1, ?_⟩
              replace h := h.2
              refine ⟨h.1, ?_⟩
              replace h := h.2
              exact h
            · replace h := h.2
              refine ⟨?_, ?_⟩
              · replace h := h.1
                intro g
                replace h := h g
                refine ⟨h.1, ?_⟩
                replace h := h.2
                refine ⟨h.1, ?_⟩
                replace h := h.2
                refine ⟨?_, ?_⟩
                · replace h := h.1
                  intro g
                  replace h := h g
                  exact h
                · replace h := h.2
                  intro g
                  replace h := h g
                  exact h
              · replace h := h.2
                refine ⟨?_, ?_⟩
                · replace h := h.1
                  intro g
                  replace h := h g
                  refine ⟨rfl, ?_⟩
                  refine q_WP_mono _ _ _ _ _ _ (fun v5 M6 hh => ?_) h
                  obtain ⟨hlM6, h⟩ := hh
                  refine ⟨h.1, ?_⟩
                  replace h := h.2
                  refine ⟨h.1, ?_⟩
                  replace h := h.2
                  refine ⟨h.1, ?_⟩
                  replace h := h.2
                  exact h
                · replace h := h.2
                  refine ⟨?_, ?_⟩
                  · replace h := h.1
                    intro g
                    replace h := h g
                    refine ⟨h.1, ?_⟩
                    replace h := h.2
                    refine ⟨h.1, ?_⟩
                    replace h := h.2
                    exact h
                  · replace h := h.2
                    exact trivial
      · replace h := h.2
        intro g
        replace h := h g
        exact h
    · replace h := h.2
      intro g
      replace h := h g
      exact h
theorem t_107_0 {d : Nat} {P : Int → qM → Prop} {x1 x2 x3 : Int} {M : qM} {c s : Nat} (hl : q_lay M) (h : q_WP q_Pr d 140 [.inr (.inr 0), .inl x1, .inl x3] M (fun v1 M2 => q_lay M2 ∧ ((¬ v1 = -1 → ((¬ x2 = (-1 : Int) → ((q_kd M2 v1 = 1) ∧ q_WP q_Pr d 6 [.inr (.inr v1), .inl x2] M2 (fun v3 M4 => q_lay M4 ∧ ((v3 = 0 → (P (-1 : Int) M4)) ∧ (¬ v3 = 0 → ((q_kd M4 v1 = 1) ∧ (((17 ≤ q_kd M4 (q_rf M4 v1 14) ∧ q_kd M4 (q_rf M4 v1 14) ≤ 20) ∧ 0 ≤ x3 ∧ x3 < q_ln M4 (q_rf M4 v1 14)) ∧ ((q_kd M4 (q_rf M4 (q_rf M4 v1 14) x3) = 14 ∧ 0 ≤ x2 ∧ x2 < q_ln M4 (q_rf M4 (q_rf M4 v1 14) x3)) ∧ (P (q_nm M4 (q_rf M4 (q_rf M4 v1 14) x3) x2) M4))))))))) ∧ (x2 = (-1 : Int) → ((q_kd M2 v1 = 1) ∧ ((q_kd M2 (q_rf M2 v1 13) = 14 ∧ 0 ≤ x3 ∧ x3 < q_ln M2 (q_rf M2 v1 13)) ∧ (P (q_nm M2 (q_rf M2 v1 13) x3) M2)))))) ∧ (v1 = -1 → (P (-1 : Int) M2))))) : q_At q_m107 (q_WP q_Pr d) P 0 [(0, .inr (.inr 0)), (1, .inl x1), (2, .inl x2), (3, .inl x3)] [] M c s := by
  refine s_107_0 ?_
  rw [lk0 hl]
  refine ⟨rfl, ?_⟩
  refine q_WP_mono _ _ _ _ _ _ (fun v1 M2 hh => ?_) h
  obtain ⟨hlM2, h⟩ := hh
  refine ⟨?_, ?_⟩
  · replace h := h.1
    intro g
    replace h := h g
    refine ⟨?_, ?_⟩
    · replace h := h.1
      intro g
      replace h := h g
      refine ⟨h.1, ?_⟩
      replace h := h.2
      refine q_WP_mono _ _ _ _ _ _ (fun v3 M4 hh => ?_) h
      obtain ⟨hlM4, h⟩ := hh
      refine ⟨?_, ?_⟩
      · replace h := h.1
        intro g
        replace h := h g
        exact h
      · replace h := h.2
        intro g
        replace h := h g
        refine ⟨h.1, ?_⟩
        replace h := h.2
        refine ⟨h.1, ?_⟩
        replace h := h.2
        refine ⟨h.1, ?_⟩
        replace h := h.2
        exact h
    · replace h := h.2
      intro g
      replace h := h g
      refine ⟨h.1, ?_⟩
      replace h := h.2
      refine ⟨h.1, ?_⟩
      replace h := h.2
      exact h
  · replace h := h.2
    intro g
    replace h := h g
    exact h
theorem t_108_0 {d : Nat} {P : Int → qM → Prop} {x1 x2 : Int} {M : qM} {c s : Nat} (hl : q_lay M) (h : q_WP q_Pr d 139 [.inr (.inr 0), .inl x1] M (fun v1 M2 => q_lay M2 ∧ ((v1 = -1 → (P (-1 : Int) M2)) ∧ (¬ v1 = -1 → ((q_kd M2 v1 = 1) ∧ q_WP q_Pr d 6 [.inr (.inr v1), .inl x2] M2 (fun v3 M4 => q_lay M4 ∧ ((¬ v3 = 0 → ((q_kd M4 v1 = 1) ∧ q_WP q_Pr d 18 [.inr (.inr v1), .inl x2, .inr (.inr 19)] M4 (fun v5 M6 => q_lay M6 ∧ (P (q_nm M6 19 1) M6)))) ∧ (v3 = 0 → (P (-1 : Int) M4))))))))) : q_At q_m108 (q_WP q_Pr d) P 0 [(0, .inr (.inr 0)), (1, .inl x1), (2, .inl x2)] [] M c s := by
  refine s_108_0 ?_
  rw [lk0 hl]
  refine ⟨rfl, ?_⟩
  refine q_WP_mono _ _ _ _ _ _ (fun v1 M2 hh => ?_) h
  obtain ⟨hlM2, h⟩ := hh
  refine ⟨?_, ?_⟩
  · replace h := h.1
    intro g
    replace h := h g
    exact h
  · replace h := h.2
    intro g
    replace h := h g
    refine ⟨h.1, ?_⟩
    replace h := h.2
    refine q_WP_mono _ _ _ _ _ _ (fun v3 M4 hh => ?_) h
    obtain ⟨hlM4, h⟩ := hh
    rw [lk0 hlM4, lr0_9 hlM4]
    refine ⟨?_, ?_⟩
    · replace h := h.1
      intro g
      replace h := h g
      refine ⟨rfl, ?_⟩
      refine ⟨h.1, ?_⟩
      replace h := h.2
      refine q_WP_mono _ _ _ _ _ _ (fun v5 M6 hh => ?_) h
      obtain ⟨hlM6, h⟩ := hh
      rw [lk0 hlM6, lr0_9 hlM6, lk19 hlM6]
      refine ⟨rfl, ?_⟩
      refine ⟨rfl, ?_⟩
      exact h
    · replace h := h.2
      intro g
      replace h := h g
      exact h
theorem t_109_0 {d : Nat} {P : Int → qM → Prop} {x1 x2 x3 : Int} {M : qM} {c s : Nat} (hl : q_lay M) (h : q_WP q_Pr d 140 [.inr (.inr 0), .inl x1, .inl x2] M (fun v1 M2 => q_lay M2 ∧ ((v1 = -1 → (P (-1 : Int) M2)) ∧ (¬ v1 = -1 → ((x3 < 0 → (P (-1 : Int) M2)) ∧ (0 ≤ x3 → ((q_kd M2 v1 = 1) ∧ ((q_kd M2 (q_rf M2 v1 13) = 14 ∧ 0 ≤ x2 ∧ x2 < q_ln M2 (q_rf M2 v1 13)) ∧ ((0 < (q_nm M2 (q_rf M2 v1 13) x2) → ((q_kd M2 v1 = 1) ∧ ((q_kd M2 (q_rf M2 v1 13) = 14 ∧ 0 ≤ x2 ∧ x2 < q_ln M2 (q_rf M2 v1 13)) ∧ (((q_nm M2 (q_rf M2 v1 13) x2) ≠ 0) ∧ ((q_kd M2 v1 = 1) ∧ q_WP q_Pr d 25 [.inr (.inr v1), .inl x2, .inr (.inl (Int.tmod (w64 (Int.tdiv (Int.tmod (w64 ((w64 ((1103515245 : Int) * x3)) + (12345 : Int))) (2147483648 : Int)) (256 : Int))) (q_nm M2 (q_rf M2 v1 13) x2)))] M2 (fun v3 M4 => q_lay M4 ∧ ((v3 = (-1 : Int) → (P v3 M4)) ∧ (¬ v3 = (-1 : Int) → ((q_kd M4 v1 = 1) ∧ q_WP q_Pr d 18 [.inr (.inr v1), .inl v3, .inr (.inr 19)] M4 (fun v5 M6 => q_lay M6 ∧ (P v3 M6))))))))))) ∧ ((q_nm M2 (q_rf M2 v1 13) x2) ≤ 0 → (P (-1 : Int) M2))))))))))) : q_At q_m109 (q_WP q_Pr d) P 0 [(0, .inr (.inr 0)), (1, .inl x1), (2, .inl x2), (3, .inl x3)] [] M c s := by
  refine s_109_0 ?_
  rw [lk0 hl]
  refine ⟨rfl, ?_⟩
  refine q_WP_mono _ _ _ _ _ _ (fun v1 M2 hh => ?_) h
  obtain ⟨hlM2, h⟩ := hh
  refine ⟨?_, ?_⟩
  · replace h := h.1
    intro g
    replace h := h g
    exact h
  · replace h := h.2
    intro g
    replace h := h g
    refine ⟨?_, ?_⟩
    · replace h := h.1
      intro g
      replace h := h g
      exact h
    · replace h := h.2
      intro g
      replace h := h g
      refine ⟨h.1, ?_⟩
      replace h := h.2
      refine ⟨h.1, ?_⟩
      replace h := h.2
      refine ⟨?_, ?_⟩
      · replace h := h.1
        intro g
        replace h := h g
        refine ⟨by decide, ?_⟩
        refine ⟨by decide, ?_⟩
        refine ⟨h.1, ?_⟩
        replace h := h.2
        refine ⟨h.1, ?_⟩
        replace h := h.2
        refine ⟨h.1, ?_⟩
        replace h := h.2
        refine ⟨h.1, ?_⟩
        replace h := h.2
        refine q_WP_mono _ _ _ _ _ _ (fun v3 M4 hh => ?_) h
        obtain ⟨hlM4, h⟩ := hh
        rw [lk0 hlM4, lr0_9 hlM4]
        refine ⟨?_, ?_⟩
        · replace h := h.1
          intro g
          replace h := h g
          exact h
        · replace h := h.2
          intro g
          replace h := h g
          refine ⟨rfl, ?_⟩
          refine ⟨h.1, ?_⟩
          replace h := h.2
          refine q_WP_mono _ _ _ _ _ _ (fun v5 M6 hh => ?_) h
          obtain ⟨hlM6, h⟩ := hh
          exact h
      · replace h := h.2
        intro g
        replace h := h g
        exact h
theorem t_110_0 {d : Nat} {P : Int → qM → Prop} {M : qM} {c s : Nat} (hl : q_lay M) (h : q_WP q_Pr d 61 [.inr (.inr 1), .inl (0 : Int), .inl (q_nm M 1 1)] M (fun v1 M2 => q_lay M2 ∧ ((v1 = 0 → (∀ M3 : qM, M3 = q_wn M2 1 1 (0 : Int) → q_lay M3 → ((0 ≤ v1 ∧ v1 ≤ 1) ∧ (P v1 M3)))) ∧ (¬ v1 = 0 → q_WP q_Pr d 62 [.inr (.inr 19), .inr (.inr 1), .inl (0 : Int), .inl (q_nm M2 1 1)] M2 (fun v4 M5 => q_lay M5 ∧ (∀ M6 : qM, M6 = q_wn M5 1 1 (0 : Int) → q_lay M6 → ((0 ≤ v1 ∧ v1 ≤ 1) ∧ (P v1 M6)))))))) : q_At q_m110 (q_WP q_Pr d) P 0 [(0, .inr (.inr 0))] [] M c s := by
  refine s_110_0 ?_
  rw [lk0 hl, lr0_0 hl, lk1 hl]
  refine ⟨rfl, ?_⟩
  refine ⟨rfl, ?_⟩
  refine ⟨rfl, ?_⟩
  refine q_WP_mono _ _ _ _ _ _ (fun v1 M2 hh => ?_) h
  obtain ⟨hlM2, h⟩ := hh
  rw [lk0 hlM2, lr0_0 hlM2, lk1 hlM2, lr0_9 hlM2, lk19 hlM2]
  refine ⟨?_, ?_⟩
  · replace h := h.1
    intro g
    replace h := h g
    refine ⟨rfl, ?_⟩
    refine ⟨rfl, ?_⟩
    intro M3
    have hlM3 : q_lay M3 := q_lay_wn hlM2
    replace h := h M3 rfl hlM3
    refine ⟨h.1, ?_⟩
    replace h := h.2
    exact h
  · replace h := h.2
    intro g
    replace h := h g
    refine ⟨rfl, ?_⟩
    refine ⟨rfl, ?_⟩
    refine ⟨rfl, ?_⟩
    refine ⟨rfl, ?_⟩
    refine ⟨rfl, ?_⟩
    refine q_WP_mono _ _ _ _ _ _ (fun v4 M5 hh => ?_) h
    obtain ⟨hlM5, h⟩ := hh
    rw [lk0 hlM5, lr0_0 hlM5, lk1 hlM5]
    refine ⟨rfl, ?_⟩
    refine ⟨rfl, ?_⟩
    intro M6
    have hlM6 : q_lay M6 := q_lay_wn hlM5
    replace h := h M6 rfl hlM6
    refine ⟨h.1, ?_⟩
    replace h := h.2
    exact h
theorem t_111_0 {d : Nat} {P : Int → qM → Prop} {x1 : Int} {M : qM} {c s : Nat} (hl : q_lay M) (h : q_WP q_Pr d 58 [.inr (.inr 19), .inl x1] M (fun v1 M2 => q_lay M2 ∧ (P v1 M2))) : q_At q_m111 (q_WP q_Pr d) P 0 [(0, .inr (.inr 0)), (1, .inl x1)] [] M c s := by
  refine s_111_0 ?_
  rw [lk0 hl, lr0_9 hl, lk19 hl]
  refine ⟨rfl, ?_⟩
  refine ⟨rfl, ?_⟩
  refine q_WP_mono _ _ _ _ _ _ (fun v1 M2 hh => ?_) h
  obtain ⟨hlM2, h⟩ := hh
  exact h
theorem t_112_0 {d : Nat} {P : Int → qM → Prop} {x1 x2 : Int} {M : qM} {c s : Nat} (hl : q_lay M) (h : q_WP q_Pr (d + 1) 139 [.inr (.inr 0), .inl x1] M (fun v1 M2 => q_lay M2 ∧ ((v1 = -1 → (P (-1 : Int) M2)) ∧ (¬ v1 = -1 → ((x2 = (-1 : Int) → ((q_kd M2 v1 = 1) ∧ q_WP q_Pr (d + 1) 20 [.inr (.inr v1), .inr (.inr 19)] M2 (fun v3 M4 => q_lay M4 ∧ ((q_kd M4 v1 = 1) ∧ q_WP q_Pr (d + 1) 21 [.inr (.inr v1), .inl v3, .inl x2] M4 (fun v5 M6 => q_lay M6 ∧ (P v5 M6)))))) ∧ (¬ x2 = (-1 : Int) → ((0 ≤ x2 ∧ x2 ≤ 8 → ((q_kd M2 v1 = 1) ∧ q_WP q_Pr (d + 1) 20 [.inr (.inr v1), .inr (.inr 19)] M2 (fun v9 M10 => q_lay M10 ∧ ((q_kd M10 v1 = 1) ∧ q_WP q_Pr (d + 1) 21 [.inr (.inr v1), .inl v9, .inl x2] M10 (fun v11 M12 => q_lay M12 ∧ (P v11 M12)))))) ∧ (¬ (0 ≤ x2 ∧ x2 ≤ 8) → (P (-1 : Int) M2))))))))) : q_At q_m112 (q_WP q_Pr (d + 1)) P 0 [(0, .inr (.inr 0)), (1, .inl x1), (2, .inl x2)] [] M c s := by
  refine s_112_0 ?_
  rw [lk0 hl]
  refine ⟨rfl, ?_⟩
  refine q_WP_mono _ _ _ _ _ _ (fun v1 M2 hh => ?_) h
  obtain ⟨hlM2, h⟩ := hh
  rw [lk0 hlM2, lr0_9 hlM2]
  refine ⟨?_, ?_⟩
  · replace h := h.1
    intro g
    replace h := h g
    exact h
  · replace h := h.2
    intro g
    replace h := h g
    refine ⟨?_, ?_⟩
    · replace h := h.1
      intro g
      replace h := h g
      refine ⟨rfl, ?_⟩
      refine ⟨h.1, ?_⟩
      replace h := h.2
      refine q_WP_mono _ _ _ _ _ _ (fun v3 M4 hh => ?_) h
      obtain ⟨hlM4, h⟩ := hh
      refine ⟨h.1, ?_⟩
      replace h := h.2
      refine q_WP_mono _ _ _ _ _ _ (fun v5 M6 hh => ?_) h
      obtain ⟨hlM6, h⟩ := hh
      exact h
    · replace h := h.2
      intro g
      replace h := h g
      refine p_134 (fun g => ?_) (fun g => ?_)
      · replace h := h.1 g
        rw [lk0 hlM2, lr0_9 hlM2]
        refine ⟨fun _ => ?_, fun g => absurd g (by decide)⟩
        refine ⟨rfl, ?_⟩
        refine ⟨h.1, ?_⟩
        replace h := h.2
        refine q_WP_mono _ _ _ _ _ _ (fun v9 M10 hh => ?_) h
        obtain ⟨hlM10, h⟩ := hh
        refine ⟨h.1, ?_⟩
        replace h := h.2
        refine q_WP_mono _ _ _ _ _ _ (fun v11 M12 hh => ?_) h
        obtain ⟨hlM12, h⟩ := hh
        exact h
      · replace h := h.2 g
        rw [lk0 hlM2, lr0_9 hlM2]
        refine ⟨fun g => absurd g (by decide), fun _ => ?_⟩
        exact h
theorem t_113_0 {d : Nat} {P : Int → qM → Prop} {x1 x2 x3 : Int} {M : qM} {c s : Nat} (hl : q_lay M) (h : q_WP q_Pr d 140 [.inr (.inr 0), .inl x1, .inl x2] M (fun v1 M2 => q_lay M2 ∧ ((¬ v1 = -1 → ((q_kd M2 v1 = 1) ∧ q_WP q_Pr d 27 [.inr (.inr v1), .inr (.inr 19), .inl x2] M2 (fun v3 M4 => q_lay M4 ∧ ((q_kd M4 v1 = 1) ∧ ((q_kd M4 (q_rf M4 v1 13) = 14 ∧ 0 ≤ x2 ∧ x2 < q_ln M4 (q_rf M4 v1 13)) ∧ q_WP q_Pr d 144 [.inl v3, .inl (q_nm M4 (q_rf M4 v1 13) x2), .inl x3] M4 (fun v5 M6 => q_lay M6 ∧ (P v5 M6))))))) ∧ (v1 = -1 → (P (-1 : Int) M2))))) : q_At q_m113 (q_WP q_Pr d) P 0 [(0, .inr (.inr 0)), (1, .inl x1), (2, .inl x2), (3, .inl x3)] [] M c s := by
  refine s_113_0 ?_
  rw [lk0 hl]
  refine ⟨rfl, ?_⟩
  refine q_WP_mono _ _ _ _ _ _ (fun v1 M2 hh => ?_) h
  obtain ⟨hlM2, h⟩ := hh
  rw [lk0 hlM2, lr0_9 hlM2]
  refine ⟨?_, ?_⟩
  · replace h := h.1
    intro g
    replace h := h g
    refine ⟨rfl, ?_⟩
    refine ⟨h.1, ?_⟩
    replace h := h.2
    refine q_WP_mono _ _ _ _ _ _ (fun v3 M4 hh => ?_) h
    obtain ⟨hlM4, h⟩ := hh
    refine ⟨h.1, ?_⟩
    replace h := h.2
    refine ⟨h.1, ?_⟩
    replace h := h.2
    refine q_WP_mono _ _ _ _ _ _ (fun v5 M6 hh => ?_) h
    obtain ⟨hlM6, h⟩ := hh
    exact h
  · replace h := h.2
    intro g
    replace h := h g
    exact h
theorem t_114_0 {d : Nat} {P : Int → qM → Prop} {x1 x2 x3 x4 : Int} {M : qM} {c s : Nat} (hl : q_lay M) (h : q_WP q_Pr (d + 1) 140 [.inr (.inr 0), .inl x1, .inl x2] M (fun v1 M2 => q_lay M2 ∧ ((v1 = -1 → (P (-1 : Int) M2)) ∧ (¬ v1 = -1 → ((0 ≤ x3 ∧ x3 ≤ 8 → ((q_kd M2 v1 = 1) ∧ q_WP q_Pr (d + 1) 20 [.inr (.inr v1), .inr (.inr 19)] M2 (fun v5 M6 => q_lay M6 ∧ (q_At q_m114 (q_WP q_Pr (d + 1)) P 39 [(0, .inr (.inr 0)), (2, .inl x2), (3, .inl x3), (4, .inl x4), (5, .inr (.inr v1)), (6, .inl (0 : Int)), (7, .inl v5), (8, .inl (0 : Int))] [] M6 c s)))) ∧ (¬ (0 ≤ x3 ∧ x3 ≤ 8) → (P (-1 : Int) M2))))))) : q_At q_m114 (q_WP q_Pr (d + 1)) P 0 [(0, .inr (.inr 0)), (1, .inl x1), (2, .inl x2), (3, .inl x3), (4, .inl x4)] [] M c s := by
  refine s_114_0 ?_
  rw [lk0 hl]
  refine ⟨rfl, ?_⟩
  refine q_WP_mono _ _ _ _ _ _ (fun v1 M2 hh => ?_) h
  obtain ⟨hlM2, h⟩ := hh
  refine ⟨?_, ?_⟩
  · replace h := h.1
    intro g
    replace h := h g
    exact h
  · replace h := h.2
    intro g
    replace h := h g
    refine p_134 (fun g => ?_) (fun g => ?_)
    · replace h := h.1 g
      rw [lk0 hlM2, lr0_9 hlM2]
      refine ⟨fun _ => ?_, fun g => absurd g (by decide)⟩
      refine ⟨rfl, ?_⟩
      refine ⟨h.1, ?_⟩
      replace h := h.2
      refine q_WP_mono _ _ _ _ _ _ (fun v5 M6 hh => ?_) h
      obtain ⟨hlM6, h⟩ := hh
      exact h
    · replace h := h.2 g
      rw [lk0 hlM2, lr0_9 hlM2]
      refine ⟨fun g => absurd g (by decide), fun _ => ?_⟩
      exact h
theorem t_114_39 {d : Nat} {P : Int → qM → Prop} {x2 x3 x4 x5 x6 x7 x8 : Int} {M : qM} {c s : Nat} (hl : q_lay M) (h : ((q_kd M x5 = 1) ∧ (((q_nm M x5 3) ≤ x8 → ((q_kd M x5 = 1) ∧ q_WP q_Pr d 27 [.inr (.inr x5), .inr (.inr 19), .inl x2] M (fun v1 M2 => q_lay M2 ∧ q_WP q_Pr d 144 [.inl x6, .inl v1, .inl x4] M2 (fun v3 M4 => q_lay M4 ∧ (P v3 M4))))) ∧ (x8 < (q_nm M x5 3) → ((q_kd M x5 = 1) ∧ ((q_kd M (q_rf M x5 11) = 14 ∧ 0 ≤ x8 ∧ x8 < q_ln M (q_rf M x5 11)) ∧ ((¬ (q_nm M (q_rf M x5 11) x8) = x7 → (q_At q_m114 (q_WP q_Pr d) P 39 [(0, .inr (.inr 0)), (2, .inl x2), (3, .inl x3), (4, .inl x4), (5, .inr (.inr x5)), (6, .inl x6), (7, .inl x7), (8, .inl (w32 (x8 + 1)))] [] M c s)) ∧ ((q_nm M (q_rf M x5 11) x8) = x7 → ((q_kd M x5 = 1) ∧ (((q_kd M (q_rf M x5 4) = 12 ∨ q_kd M (q_rf M x5 4) = 16) ∧ 0 ≤ x8 ∧ x8 < q_ln M (q_rf M x5 4)) ∧ ((¬ (q_nm M (q_rf M x5 4) x8) = x3 → (q_At q_m114 (q_WP q_Pr d) P 39 [(0, .inr (.inr 0)), (2, .inl x2), (3, .inl x3), (4, .inl x4), (5, .inr (.inr x5)), (6, .inl x6), (7, .inl x7), (8, .inl (w32 (x8 + 1)))] [] M c s)) ∧ ((q_nm M (q_rf M x5 4) x8) = x3 → ((q_kd M x5 = 1) ∧ (((17 ≤ q_kd M (q_rf M x5 14) ∧ q_kd M (q_rf M x5 14) ≤ 20) ∧ 0 ≤ x2 ∧ x2 < q_ln M (q_rf M x5 14)) ∧ ((q_kd M (q_rf M (q_rf M x5 14) x2) = 14 ∧ 0 ≤ x8 ∧ x8 < q_ln M (q_rf M (q_rf M x5 14) x2)) ∧ (q_At q_m114 (q_WP q_Pr d) P 39 [(0, .inr (.inr 0)), (2, .inl x2), (3, .inl x3), (4, .inl x4), (5, .inr (.inr x5)), (6, .inl (w32 (x6 + (q_nm M (q_rf M (q_rf M x5 14) x2) x8)))), (7, .inl x7), (8, .inl (w32 (x8 + 1)))] [] M c s)))))))))))))))) : q_At q_m114 (q_WP q_Pr d) P 39 [(0, .inr (.inr 0)), (2, .inl x2), (3, .inl x3), (4, .inl x4), (5, .inr (.inr x5)), (6, .inl x6), (7, .inl x7), (8, .inl x8)] [] M c s := by
  refine s_114_39 ?_
  rw [lk0 hl, lr0_9 hl]
  refine ⟨h.1, ?_⟩
  replace h := h.2
  refine ⟨?_, ?_⟩
  · replace h := h.1
    intro g
    replace h := h g
    refine ⟨rfl, ?_⟩
    refine ⟨h.1, ?_⟩
    replace h := h.2
    refine q_WP_mono _ _ _ _ _ _ (fun v1 M2 hh => ?_) h
    obtain ⟨hlM2, h⟩ := hh
    refine q_WP_mono _ _ _ _ _ _ (fun v3 M4 hh => ?_) h
    obtain ⟨hlM4, h⟩ := hh
    exact h
  · replace h := h.2
    intro g
    replace h := h g
    refine ⟨h.1, ?_⟩
    replace h := h.2
    refine ⟨h.1, ?_⟩
    replace h := h.2
    refine ⟨?_, ?_⟩
    · replace h := h.1
      intro g
      replace h := h g
      exact h
    · replace h := h.2
      intro g
      replace h := h g
      refine ⟨h.1, ?_⟩
      replace h := h.2
      refine ⟨h.1, ?_⟩
      replace h := h.2
      refine ⟨?_, ?_⟩
      · replace h := h.1
        intro g
        replace h := h g
        exact h
      · replace h := h.2
        intro g
        replace h := h g
        refine ⟨h.1, ?_⟩
        replace h := h.2
        refine ⟨h.1, ?_⟩
        replace h := h.2
        refine ⟨h.1, ?_⟩
        replace h := h.2
        exact h
theorem t_115_0 {d : Nat} {P : Int → qM → Prop} {x1 : Int} {M : qM} {c s : Nat} (hl : q_lay M) (h : ((x1 = (-1 : Int) → (q_At q_m115 (q_WP q_Pr (d + 1)) P 19 [(0, .inr (.inr 0)), (1, .inl x1), (2, .inl (0 : Int)), (3, .inl (0 : Int))] [] M c s)) ∧ (¬ x1 = (-1 : Int) → (((0 ≤ x1 ∧ x1 < 4) ∧ ¬ q_rf M 14 x1 = -1 → (q_At q_m115 (q_WP q_Pr (d + 1)) P 19 [(0, .inr (.inr 0)), (1, .inl x1), (2, .inl (0 : Int)), (3, .inl (0 : Int))] [] M c s)) ∧ (¬ ((0 ≤ x1 ∧ x1 < 4) ∧ ¬ q_rf M 14 x1 = -1) → (P (-1 : Int) M)))))) : q_At q_m115 (q_WP q_Pr (d + 1)) P 0 [(0, .inr (.inr 0)), (1, .inl x1)] [] M c s := by
  refine s_115_0 ?_
  rw [lk0 hl]
  refine ⟨?_, ?_⟩
  · replace h := h.1
    intro g
    replace h := h g
    exact h
  · replace h := h.2
    intro g
    replace h := h g
    refine ⟨rfl, ?_⟩
    refine p_136 hl (fun g => ?_) (fun g => ?_)
    · replace h := h.1 g
      refine ⟨fun _ => ?_, fun g => absurd g (by decide)⟩
      exact h
    · replace h := h.2 g
      refine ⟨fun g => absurd g (by decide), fun _ => ?_⟩
      exact h
theorem t_115_19 {d : Nat} {P : Int → qM → Prop} {x1 x2 x3 : Int} {M : qM} {c s : Nat} (hl : q_lay M) (h : (((q_nm M 0 3) ≤ x3 → (P x2 M)) ∧ (x3 < (q_nm M 0 3) → ((¬ x1 = (-1 : Int) → q_WP q_Pr d 140 [.inr (.inr 0), .inl x3, .inl x1] M (fun v1 M2 => q_lay M2 ∧ ((v1 = -1 → (q_At q_m115 (q_WP q_Pr d) P 19 [(0, .inr (.inr 0)), (1, .inl x1), (2, .inl x2), (3, .inl (w32 (x3 + 1)))] [] M2 c s)) ∧ (¬ v1 = -1 → ((q_kd M2 v1 = 1) ∧ q_WP q_Pr d 26 [.inr (.inr v1), .inr (.inr 19), .inl x1] M2 (fun v3 M4 => q_lay M4 ∧ ((v3 = 0 → (q_At q_m115 (q_WP q_Pr d) P 19 [(0, .inr (.inr 0)), (1, .inl x1), (2, .inl x2), (3, .inl (w32 (x3 + 1)))] [] M4 c s)) ∧ (¬ v3 = 0 → (q_At q_m115 (q_WP q_Pr d) P 19 [(0, .inr (.inr 0)), (1, .inl x1), (2, .inl (q_or x2 (q_shl (1 : Int) x3))), (3, .inl (w32 (x3 + 1)))] [] M4 c s))))))))) ∧ (x1 = (-1 : Int) → q_WP q_Pr d 139 [.inr (.inr 0), .inl x3] M (fun v5 M6 => q_lay M6 ∧ ((v5 = -1 → (q_At q_m115 (q_WP q_Pr d) P 19 [(0, .inr (.inr 0)), (1, .inl x1), (2, .inl x2), (3, .inl (w32 (x3 + 1)))] [] M6 c s)) ∧ (¬ v5 = -1 → ((q_kd M6 v5 = 1) ∧ q_WP q_Pr d 26 [.inr (.inr v5), .inr (.inr 19), .inl x1] M6 (fun v7 M8 => q_lay M8 ∧ ((v7 = 0 → (q_At q_m115 (q_WP q_Pr d) P 19 [(0, .inr (.inr 0)), (1, .inl x1), (2, .inl x2), (3, .inl (w32 (x3 + 1)))] [] M8 c s)) ∧ (¬ v7 = 0 → (q_At q_m115 (q_WP q_Pr d) P 19 [(0, .inr (.inr 0)), (1, .inl x1), (2, .inl (q_or x2 (q_shl (1 : Int) x3))), (3, .inl (w32 (x3 + 1)))] [] M8 c s))))))))))))) : q_At q_m115 (q_WP q_Pr d) P 19 [(0, .inr (.inr 0)), (1, .inl x1), (2, .inl x2), (3, .inl x3)] [] M c s := by
  refine s_115_19 ?_
  rw [lk0 hl]
  refine ⟨rfl, ?_⟩
  refine ⟨?_, ?_⟩
  · replace h := h.1
    intro g
    replace h := h g
    exact h
  · replace h := h.2
    intro g
    replace h := h g
    refine ⟨?_, ?_⟩
    · replace h := h.1
      intro g
      replace h := h g
      refine ⟨rfl, ?_⟩
      refine q_WP_mono _ _ _ _ _ _ (fun v1 M2 hh => ?_) h
      obtain ⟨hlM2, h⟩ := hh
      rw [lk0 hlM2, lr0_9 hlM2]
      refine ⟨?_, ?_⟩
      · replace h := h.1
        intro g
        replace h := h g
        exact h
      · replace h := h.2
        intro g
        replace h := h g
        refine ⟨rfl, ?_⟩
        refine ⟨h.1, ?_⟩
        replace h := h.2
        refine q_WP_mono _ _ _ _ _ _ (fun v3 M4 hh => ?_) h
        obtain ⟨hlM4, h⟩ := hh
        refine ⟨?_, ?_⟩
        · replace h := h.1
          intro g
          replace h := h g
          exact h
        · replace h := h.2
          intro g
          replace h := h g
          exact h
    · replace h := h.2
      intro g
      replace h := h g
      refine ⟨rfl, ?_⟩
      refine q_WP_mono _ _ _ _ _ _ (fun v5 M6 hh => ?_) h
      obtain ⟨hlM6, h⟩ := hh
      rw [lk0 hlM6, lr0_9 hlM6]
      refine ⟨?_, ?_⟩
      · replace h := h.1
        intro g
        replace h := h g
        exact h
      · replace h := h.2
        intro g
        replace h := h g
        refine ⟨rfl, ?_⟩
        refine ⟨h.1, ?_⟩
        replace h := h.2
        refine q_WP_mono _ _ _ _ _ _ (fun v7 M8 hh => ?_) h
        obtain ⟨hlM8, h⟩ := hh
        refine ⟨?_, ?_⟩
        · replace h := h.1
          intro g
          replace h := h g
          exact h
        · replace h := h.2
          intro g
          replace h := h g
          exact h
theorem t_116_0 {d : Nat} {P : Int → qM → Prop} {x1 x2 : Int} {M : qM} {c s : Nat} (hl : q_lay M) (h : q_WP q_Pr d 140 [.inr (.inr 0), .inl x1, .inl x2] M (fun v1 M2 => q_lay M2 ∧ ((v1 = -1 → (P (-1 : Int) M2)) ∧ (¬ v1 = -1 → ((q_kd M2 v1 = 1) ∧ ((q_kd M2 (q_rf M2 v1 13) = 14 ∧ 0 ≤ x2 ∧ x2 < q_ln M2 (q_rf M2 v1 13)) ∧ ((¬ (q_nm M2 (q_rf M2 v1 13) x2) = 0 → ((q_kd M2 v1 = 1) ∧ (((17 ≤ q_kd M2 (q_rf M2 v1 14) ∧ q_kd M2 (q_rf M2 v1 14) ≤ 20) ∧ 0 ≤ x2 ∧ x2 < q_ln M2 (q_rf M2 v1 14)) ∧ (q_At q_m116 (q_WP q_Pr d) P 36 [(3, .inr (.inr v1)), (4, .inr (.inr (q_rf M2 (q_rf M2 v1 14) x2))), (5, .inl (0 : Int)), (6, .inl (1 : Int))] [] M2 c s)))) ∧ ((q_nm M2 (q_rf M2 v1 13) x2) = 0 → (P (-1 : Int) M2))))))))) : q_At q_m116 (q_WP q_Pr d) P 0 [(0, .inr (.inr 0)), (1, .inl x1), (2, .inl x2)] [] M c s := by
  refine s_116_0 ?_
  rw [lk0 hl]
  refine ⟨rfl, ?_⟩
  refine q_WP_mono _ _ _ _ _ _ (fun v1 M2 hh => ?_) h
  obtain ⟨hlM2, h⟩ := hh
  refine ⟨?_, ?_⟩
  · replace h := h.1
    intro g
    replace h := h g
    exact h
  · replace h := h.2
    intro g
    replace h := h g
    refine ⟨h.1, ?_⟩
    replace h := h.2
    refine ⟨h.1, ?_⟩
    replace h := h.2
    refine ⟨?_, ?_⟩
    · replace h := h.1
      intro g
      replace h := h g
      refine ⟨h.1, ?_⟩
      replace h := h.2
      refine ⟨h.1, ?_⟩
      replace h := h.2
      exact h
    · replace h := h.2
      intro g
      replace h := h g
      exact h
theorem t_116_36 {d : Nat} {P : Int → qM → Prop} {x3 x4 x5 x6 : Int} {M : qM} {c s : Nat} (hl : q_lay M) (h : ((q_kd M x3 = 1) ∧ (((q_nm M x3 3) ≤ x6 → (P x5 M)) ∧ (x6 < (q_nm M x3 3) → ((q_kd M x4 = 14 ∧ 0 ≤ x6 ∧ x6 < q_ln M x4) ∧ ((q_kd M x4 = 14 ∧ 0 ≤ x5 ∧ x5 < q_ln M x4) ∧ (((q_nm M x4 x6) ≤ (q_nm M x4 x5) → (q_At q_m116 (q_WP q_Pr d) P 36 [(3, .inr (.inr x3)), (4, .inr (.inr x4)), (5, .inl x5), (6, .inl (w32 (x6 + 1)))] [] M c s)) ∧ ((q_nm M x4 x5) < (q_nm M x4 x6) → (q_At q_m116 (q_WP q_Pr d) P 36 [(3, .inr (.inr x3)), (4, .inr (.inr x4)), (5, .inl x6), (6, .inl (w32 (x6 + 1)))] [] M c s))))))))) : q_At q_m116 (q_WP q_Pr d) P 36 [(3, .inr (.inr x3)), (4, .inr (.inr x4)), (5, .inl x5), (6, .inl x6)] [] M c s := by
  refine s_116_36 ?_
  refine ⟨h.1, ?_⟩
  replace h := h.2
  refine ⟨?_, ?_⟩
  · replace h := h.1
    intro g
    replace h := h g
    exact h
  · replace h := h.2
    intro g
    replace h := h g
    refine ⟨h.1, ?_⟩
    replace h := h.2
    refine ⟨h.1, ?_⟩
    replace h := h.2
    refine ⟨?_, ?_⟩
    · replace h := h.1
      intro g
      replace h := h g
      exact h
    · replace h := h.2
      intro g
      replace h := h g
      exact h
theorem t_117_0 {d : Nat} {P : Int → qM → Prop} {x1 x2 : Int} {M : qM} {c s : Nat} (hl : q_lay M) (h : (((0 ≤ x1 ∧ x1 < 4) ∧ ¬ q_rf M 14 x1 = -1 → ((0 ≤ x2 ∧ x2 ≤ 8 → (q_At q_m117 (q_WP q_Pr (d + 1)) P 19 [(0, .inr (.inr 0)), (1, .inl x1), (2, .inl x2), (3, .inl (0 : Int))] [] M c s)) ∧ (¬ (0 ≤ x2 ∧ x2 ≤ 8) → (P (-1 : Int) M)))) ∧ (¬ ((0 ≤ x1 ∧ x1 < 4) ∧ ¬ q_rf M 14 x1 = -1) → (P (-1 : Int) M)))) : q_At q_m117 (q_WP q_Pr (d + 1)) P 0 [(0, .inr (.inr 0)), (1, .inl x1), (2, .inl x2)] [] M c s := by
  refine s_117_0 ?_
  rw [lk0 hl]
  refine ⟨rfl, ?_⟩
  refine p_136 hl (fun g => ?_) (fun g => ?_)
  · replace h := h.1 g
    refine ⟨fun g => absurd g (by decide), fun _ => ?_⟩
    refine p_134 (fun g => ?_) (fun g => ?_)
    · replace h := h.1 g
      refine ⟨fun _ => ?_, fun g => absurd g (by decide)⟩
      exact h
    · replace h := h.2 g
      refine ⟨fun g => absurd g (by decide), fun _ => ?_⟩
      exact h
  · replace h := h.2 g
    refine ⟨fun _ => ?_, fun g => absurd g (by decide)⟩
    exact h
theorem t_117_19 {d : Nat} {P : Int → qM → Prop} {x1 x2 x3 : Int} {M : qM} {c s : Nat} (hl : q_lay M) (h : (((q_nm M 0 3) ≤ x3 → (P (1 : Int) M)) ∧ (x3 < (q_nm M 0 3) → q_WP q_Pr d 140 [.inr (.inr 0), .inl x3, .inl x1] M (fun v1 M2 => q_lay M2 ∧ ((v1 = -1 → (q_At q_m117 (q_WP q_Pr d) P 19 [(0, .inr (.inr 0)), (1, .inl x1), (2, .inl x2), (3, .inl (w32 (x3 + 1)))] [] M2 c s)) ∧ (¬ v1 = -1 → ((q_kd M2 v1 = 1) ∧ q_WP q_Pr d 28 [.inr (.inr v1), .inl x2, .inl x1] M2 (fun v3 M4 => q_lay M4 ∧ ((v3 ≤ 0 → (q_At q_m117 (q_WP q_Pr d) P 19 [(0, .inr (.inr 0)), (1, .inl x1), (2, .inl x2), (3, .inl (w32 (x3 + 1)))] [] M4 c s)) ∧ (0 < v3 → (P (0 : Int) M4))))))))))) : q_At q_m117 (q_WP q_Pr d) P 19 [(0, .inr (.inr 0)), (1, .inl x1), (2, .inl x2), (3, .inl x3)] [] M c s := by
  refine s_117_19 ?_
  rw [lk0 hl]
  refine ⟨rfl, ?_⟩
  refine ⟨?_, ?_⟩
  · replace h := h.1
    intro g
    replace h := h g
    exact h
  · replace h := h.2
    intro g
    replace h := h g
    refine ⟨rfl, ?_⟩
    refine q_WP_mono _ _ _ _ _ _ (fun v1 M2 hh => ?_) h
    obtain ⟨hlM2, h⟩ := hh
    refine ⟨?_, ?_⟩
    · replace h := h.1
      intro g
      replace h := h g
      exact h
    · replace h := h.2
      intro g
      replace h := h g
      refine ⟨h.1, ?_⟩
      replace h := h.2
      refine q_WP_mono _ _ _ _ _ _ (fun v3 M4 hh => ?_) h
      obtain ⟨hlM4, h⟩ := hh
      refine ⟨?_, ?_⟩
      · replace h := h.1
        intro g
        replace h := h g
        exact h
      · replace h := h.2
        intro g
        replace h := h g
        exact h
theorem t_118_0 {d : Nat} {P : Int → qM → Prop} {x1 : Int} {M : qM} {c s : Nat} (hl : q_lay M) (h : ((0 ≤ x1 ∧ x1 < q_nm M 0 3 → (((q_nm M 19 1) = 0 → (P (-1 : Int) M)) ∧ (¬ (q_nm M 19 1) = 0 → (((q_nm M 21 2) < (20 : Int) → q_WP q_Pr (d + 1) 34 [.inr (.inr 21), .inl x1, .inr (.inr 19)] M (fun v3 M4 => q_lay M4 ∧ (P (q_nm M4 21 2) M4))) ∧ ((20 : Int) ≤ (q_nm M 21 2) → (P (-1 : Int) M)))))) ∧ (¬ (0 ≤ x1 ∧ x1 < q_nm M 0 3) → (P (-1 : Int) M)))) : q_At q_m118 (q_WP q_Pr (d + 1)) P 0 [(0, .inr (.inr 0)), (1, .inl x1)] [] M c s := by
  refine s_118_0 ?_
  rw [lk0 hl]
  refine ⟨rfl, ?_⟩
  refine p_135 hl (fun g => ?_) (fun g => ?_)
  · replace h := h.1 g
    rw [lk0 hl, lr0_9 hl, lk19 hl, lr0_10 hl, lk21 hl]
    refine ⟨fun g => absurd g (by decide), fun _ => ?_⟩
    refine ⟨rfl, ?_⟩
    refine ⟨rfl, ?_⟩
    refine ⟨?_, ?_⟩
    · replace h := h.1
      intro g
      replace h := h g
      exact h
    · replace h := h.2
      intro g
      replace h := h g
      refine ⟨rfl, ?_⟩
      refine ⟨rfl, ?_⟩
      refine ⟨?_, ?_⟩
      · replace h := h.1
        intro g
        replace h := h g
        refine ⟨rfl, ?_⟩
        refine ⟨rfl, ?_⟩
        refine ⟨rfl, ?_⟩
        refine q_WP_mono _ _ _ _ _ _ (fun v3 M4 hh => ?_) h
        obtain ⟨hlM4, h⟩ := hh
        rw [lk0 hlM4, lr0_10 hlM4, lk21 hlM4]
        refine ⟨rfl, ?_⟩
        refine ⟨rfl, ?_⟩
        exact h
      · replace h := h.2
        intro g
        replace h := h g
        exact h
  · replace h := h.2 g
    rw [lk0 hl, lr0_9 hl, lk19 hl, lr0_10 hl, lk21 hl]
    refine ⟨fun _ => ?_, fun g => absurd g (by decide)⟩
    exact h
theorem t_119_0 {d : Nat} {P : Int → qM → Prop} {M : qM} {c s : Nat} (hl : q_lay M) (h : ((¬ (q_nm M 21 2) = 0 → (∀ M1 : qM, M1 = q_wn M 21 2 (w32 ((q_nm M 21 2) - (1 : Int))) → q_lay M1 → (P (q_nm M1 21 2) M1))) ∧ ((q_nm M 21 2) = 0 → (P (-1 : Int) M)))) : q_At q_m119 (q_WP q_Pr d) P 0 [(0, .inr (.inr 0))] [] M c s := by
  refine s_119_0 ?_
  rw [lk0 hl, lr0_10 hl, lk21 hl]
  refine ⟨rfl, ?_⟩
  refine ⟨rfl, ?_⟩
  refine ⟨?_, ?_⟩
  · replace h := h.1
    intro g
    replace h := h g
    refine ⟨rfl, ?_⟩
    refine ⟨rfl, ?_⟩
    refine ⟨rfl, ?_⟩
    intro M1
    have hlM1 : q_lay M1 := q_lay_wn hl
    replace h := h M1 rfl hlM1
    rw [lk0 hlM1, lr0_10 hlM1, lk21 hlM1]
    refine ⟨rfl, ?_⟩
    refine ⟨rfl, ?_⟩
    exact h
  · replace h := h.2
    intro g
    replace h := h g
    exact h
theorem t_120_0 {d : Nat} {P : Int → qM → Prop} {x1 : Int} {M : qM} {c s : Nat} (hl : q_lay M) (h : ((x1 < 0 → (P (-1 : Int) M)) ∧ (0 ≤ x1 → ((x1 < (q_nm M 21 2) → ((0 ≤ x1 ∧ x1 < 20) ∧ q_WP q_Pr d 60 [.inr (.inr 19), .inr (.inr (q_rf M 23 x1))] M (fun v1 M2 => q_lay M2 ∧ ((0 ≤ x1 ∧ x1 < 20) ∧ (P (q_nm M2 22 x1) M2))))) ∧ ((q_nm M 21 2) ≤ x1 → (P (-1 : Int) M)))))) : q_At q_m120 (q_WP q_Pr d) P 0 [(0, .inr (.inr 0)), (1, .inl x1)] [] M c s := by
  refine s_120_0 ?_
  rw [lk0 hl, lr0_10 hl, lk21 hl, lr21_1 hl, ll23 hl, lk23 hl, lr0_9 hl, lk19 hl]
  refine ⟨?_, ?_⟩
  · replace h := h.1
    intro g
    replace h := h g
    exact h
  · replace h := h.2
    intro g
    replace h := h g
    refine ⟨rfl, ?_⟩
    refine ⟨rfl, ?_⟩
    refine ⟨?_, ?_⟩
    · replace h := h.1
      intro g
      replace h := h g
      refine ⟨rfl, ?_⟩
      refine ⟨rfl, ?_⟩
      refine ⟨rfl, ?_⟩
      refine ⟨⟨⟨by decide, by decide⟩, h.1⟩, ?_⟩
      replace h := h.2
      refine ⟨rfl, ?_⟩
      refine q_WP_mono _ _ _ _ _ _ (fun v1 M2 hh => ?_) h
      obtain ⟨hlM2, h⟩ := hh
      rw [lk0 hlM2, lr0_10 hlM2, lk21 hlM2, lr21_0 hlM2, ll22 hlM2, lk22 hlM2]
      refine ⟨rfl, ?_⟩
      refine ⟨rfl, ?_⟩
      refine ⟨⟨rfl, h.1⟩, ?_⟩
      replace h := h.2
      exact h
    · replace h := h.2
      intro g
      replace h := h g
      exact h
theorem t_121_0 {d : Nat} {P : Int → qM → Prop} {x1 : Int} {M : qM} {c s : Nat} (hl : q_lay M) (h : (((0 ≤ x1 ∧ x1 < 4) ∧ ¬ q_rf M 14 x1 = -1 → (q_At q_m121 (q_WP q_Pr (d + 1)) P 12 [(0, .inr (.inr 0)), (1, .inl x1), (2, .inl (0 : Int))] [] M c s)) ∧ (¬ ((0 ≤ x1 ∧ x1 < 4) ∧ ¬ q_rf M 14 x1 = -1) → (P (-1 : Int) M)))) : q_At q_m121 (q_WP q_Pr (d + 1)) P 0 [(0, .inr (.inr 0)), (1, .inl x1)] [] M c s := by
  refine s_121_0 ?_
  rw [lk0 hl]
  refine ⟨rfl, ?_⟩
  refine p_136 hl (fun g => ?_) (fun g => ?_)
  · replace h := h.1 g
    refine ⟨fun _ => ?_, fun g => absurd g (by decide)⟩
    exact h
  · replace h := h.2 g
    refine ⟨fun g => absurd g (by decide), fun _ => ?_⟩
    exact h
theorem t_121_12 {d : Nat} {P : Int → qM → Prop} {x1 x2 : Int} {M : qM} {c s : Nat} (hl : q_lay M) (h : (((q_nm M 21 2) ≤ x2 → (P (-1 : Int) M)) ∧ (x2 < (q_nm M 21 2) → ((0 ≤ x2 ∧ x2 < 20) ∧ q_WP q_Pr d 140 [.inr (.inr 0), .inl (q_nm M 22 x2), .inl x1] M (fun v1 M2 => q_lay M2 ∧ ((v1 = -1 → (P x2 M2)) ∧ (¬ v1 = -1 → ((0 ≤ x2 ∧ x2 < 20) ∧ ((q_kd M2 v1 = 1) ∧ q_WP q_Pr d 27 [.inr (.inr v1), .inr (.inr (q_rf M2 23 x2)), .inl x1] M2 (fun v3 M4 => q_lay M4 ∧ ((¬ v3 = 0 → (q_At q_m121 (q_WP q_Pr d) P 12 [(0, .inr (.inr 0)), (1, .inl x1), (2, .inl (w32 (x2 + 1)))] [] M4 c s)) ∧ (v3 = 0 → (P x2 M4))))))))))))) : q_At q_m121 (q_WP q_Pr d) P 12 [(0, .inr (.inr 0)), (1, .inl x1), (2, .inl x2)] [] M c s := by
  refine s_121_12 ?_
  rw [lk0 hl, lr0_10 hl, lk21 hl, lr21_0 hl, ll22 hl, lk22 hl]
  refine ⟨rfl, ?_⟩
  refine ⟨rfl, ?_⟩
  refine ⟨?_, ?_⟩
  · replace h := h.1
    intro g
    replace h := h g
    exact h
  · replace h := h.2
    intro g
    replace h := h g
    refine ⟨rfl, ?_⟩
    refine ⟨rfl, ?_⟩
    refine ⟨⟨rfl, h.1⟩, ?_⟩
    replace h := h.2
    refine ⟨rfl, ?_⟩
    refine q_WP_mono _ _ _ _ _ _ (fun v1 M2 hh => ?_) h
    obtain ⟨hlM2, h⟩ := hh
    rw [lk0 hlM2, lr0_10 hlM2, lk21 hlM2, lr21_1 hlM2, ll23 hlM2, lk23 hlM2]
    refine ⟨?_, ?_⟩
    · replace h := h.1
      intro g
      replace h := h g
      exact h
    · replace h := h.2
      intro g
      replace h := h g
      refine ⟨rfl, ?_⟩
      refine ⟨rfl, ?_⟩
      refine ⟨⟨⟨by decide, by decide⟩, h.1⟩, ?_⟩
      replace h := h.2
      refine ⟨h.1, ?_⟩
      replace h := h.2
      refine q_WP_mono _ _ _ _ _ _ (fun v3 M4 hh => ?_) h
      obtain ⟨hlM4, h⟩ := hh
      refine ⟨?_, ?_⟩
      · replace h := h.1
        intro g
        replace h := h g
        exact h
      · replace h := h.2
        intro g
        replace h := h g
        exact h
theorem t_122_0 {d : Nat} {P : Int → qM → Prop} {x1 x2 : Int} {M : qM} {c s : Nat} (hl : q_lay M) (h : (((0 ≤ x1 ∧ x1 < 4) ∧ ¬ q_rf M 14 x1 = -1 → (((0 ≤ x2 ∧ x2 < 4) ∧ ¬ q_rf M 14 x2 = -1 → (q_At q_m122 (q_WP q_Pr (d + 1)) P 23 [(0, .inr (.inr 0)), (1, .inl x1), (2, .inl x2), (3, .inl (0 : Int)), (4, .inl (0 : Int))] [] M c s)) ∧ (¬ ((0 ≤ x2 ∧ x2 < 4) ∧ ¬ q_rf M 14 x2 = -1) → (P (-1 : Int) M)))) ∧ (¬ ((0 ≤ x1 ∧ x1 < 4) ∧ ¬ q_rf M 14 x1 = -1) → (P (-1 : Int) M)))) : q_At q_m122 (q_WP q_Pr (d + 1)) P 0 [(0, .inr (.inr 0)), (1, .inl x1), (2, .inl x2)] [] M c s := by
  refine s_122_0 ?_
  rw [lk0 hl]
  refine ⟨rfl, ?_⟩
  refine p_136 hl (fun g => ?_) (fun g => ?_)
  · replace h := h.1 g
    rw [lk0 hl]
    refine ⟨fun g => absurd g (by decide), fun _ => ?_⟩
    refine ⟨rfl, ?_⟩
    refine p_136 hl (fun g => ?_) (fun g => ?_)
    · replace h := h.1 g
      refine ⟨fun _ => ?_, fun g => absurd g (by decide)⟩
      exact h
    · replace h := h.2 g
      refine ⟨fun g => absurd g (by decide), fun _ => ?_⟩
      exact h
  · replace h := h.2 g
    rw [lk0 hl]
    refine ⟨fun _ => ?_, fun g => absurd g (by decide)⟩
    exact h
theorem t_122_23 {d : Nat} {P : Int → qM → Prop} {x1 x2 x3 x4 : Int} {M : qM} {c s : Nat} (hl : q_lay M) (h : (((q_nm M 21 2) ≤ x4 → (P x3 M)) ∧ (x4 < (q_nm M 21 2) → ((0 ≤ x4 ∧ x4 < 20) ∧ q_WP q_Pr d 141 [.inr (.inr 0), .inl (q_nm M 22 x4)] M (fun v1 M2 => q_lay M2 ∧ ((v1 = -1 → (q_At q_m122 (q_WP q_Pr d) P 23 [(0, .inr (.inr 0)), (1, .inl x1), (2, .inl x2), (3, .inl x3), (4, .inl (w32 (x4 + 1)))] [] M2 c s)) ∧ (¬ v1 = -1 → ((0 ≤ x4 ∧ x4 < 20) ∧ ((q_kd M2 v1 = 1) ∧ q_WP q_Pr d 29 [.inr (.inr v1), .inr (.inr (q_rf M2 23 x4)), .inl x1, .inl x2] M2 (fun v3 M4 => q_lay M4 ∧ ((v3 = 0 → (q_At q_m122 (q_WP q_Pr d) P 23 [(0, .inr (.inr 0)), (1, .inl x1), (2, .inl x2), (3, .inl x3), (4, .inl (w32 (x4 + 1)))] [] M4 c s)) ∧ (¬ v3 = 0 → (q_At q_m122 (q_WP q_Pr d) P 23 [(0, .inr (.inr 0)), (1, .inl x1), (2, .inl x2), (3, .inl (w32 (x3 + 1))), (4, .inl (w32 (x4 + 1)))] [] M4 c s))))))))))))) : q_At q_m122 (q_WP q_Pr d) P 23 [(0, .inr (.inr 0)), (1, .inl x1), (2, .inl x2), (3, .inl x3), (4, .inl x4)] [] M c s := by
  refine s_122_23 ?_
  rw [lk0 hl, lr0_10 hl, lk21 hl, lr21_0 hl, ll22 hl, lk22 hl]
  refine ⟨rfl, ?_⟩
  refine ⟨rfl, ?_⟩
  refine ⟨?_, ?_⟩
  · replace h := h.1
    intro g
    replace h := h g
    exact h
  · replace h := h.2
    intro g
    replace h := h g
    refine ⟨rfl, ?_⟩
    refine ⟨rfl, ?_⟩
    refine ⟨⟨rfl, h.1⟩, ?_⟩
    replace h := h.2
    refine ⟨rfl, ?_⟩
    refine q_WP_mono _ _ _ _ _ _ (fun v1 M2 hh => ?_) h
    obtain ⟨hlM2, h⟩ := hh
    rw [lk0 hlM2, lr0_10 hlM2, lk21 hlM2, lr21_1 hlM2, ll23 hlM2, lk23 hlM2]
    refine ⟨?_, ?_⟩
    · replace h := h.1
      intro g
      replace h := h g
      exact h
    · replace h := h.2
      intro g
      replace h := h g
      refine ⟨rfl, ?_⟩
      refine ⟨rfl, ?_⟩
      refine ⟨⟨⟨by decide, by decide⟩, h.1⟩, ?_⟩
      replace h := h.2
      refine ⟨h.1, ?_⟩
      replace h := h.2
      refine q_WP_mono _ _ _ _ _ _ (fun v3 M4 hh => ?_) h
      obtain ⟨hlM4, h⟩ := hh
      refine ⟨?_, ?_⟩
      · replace h := h.1
        intro g
        replace h := h g
        exact h
      · replace h := h.2
        intro g
        replace h := h g
        exact h
theorem t_123_0 {d : Nat} {P : Int → qM → Prop} {x1 : Int} {M : qM} {c s : Nat} (hl : q_lay M) (h : ((0 ≤ x1 ∧ x1 ≤ 8 → (q_At q_m123 (q_WP q_Pr (d + 1)) P 13 [(0, .inr (.inr 0)), (1, .inl x1), (2, .inl (0 : Int)), (3, .inl (0 : Int))] [] M c s)) ∧ (¬ (0 ≤ x1 ∧ x1 ≤ 8) → (P (-1 : Int) M)))) : q_At q_m123 (q_WP q_Pr (d + 1)) P 0 [(0, .inr (.inr 0)), (1, .inl x1)] [] M c s := by
  refine s_123_0 ?_
  refine p_134 (fun g => ?_) (fun g => ?_)
  · replace h := h.1 g
    refine ⟨fun _ => ?_, fun g => absurd g (by decide)⟩
    exact h
  · replace h := h.2 g
    refine ⟨fun g => absurd g (by decide), fun _ => ?_⟩
    exact h
theorem t_123_13 {d : Nat} {P : Int → qM → Prop} {x1 x2 x3 : Int} {M : qM} {c s : Nat} (hl : q_lay M) (h : (((q_nm M 21 2) ≤ x3 → (P x2 M)) ∧ (x3 < (q_nm M 21 2) → ((0 ≤ x3 ∧ x3 < 20) ∧ q_WP q_Pr d 139 [.inr (.inr 0), .inl (q_nm M 22 x3)] M (fun v1 M2 => q_lay M2 ∧ ((v1 = -1 → (q_At q_m123 (q_WP q_Pr d) P 13 [(0, .inr (.inr 0)), (1, .inl x1), (2, .inl x2), (3, .inl (w32 (x3 + 1)))] [] M2 c s)) ∧ (¬ v1 = -1 → ((0 ≤ x3 ∧ x3 < 20) ∧ ((q_kd M2 v1 = 1) ∧ q_WP q_Pr d 20 [.inr (.inr v1), .inr (.inr (q_rf M2 23 x3))] M2 (fun v3 M4 => q_lay M4 ∧ ((q_kd M4 v1 = 1) ∧ q_WP q_Pr d 21 [.inr (.inr v1), .inl v3, .inl x1] M4 (fun v5 M6 => q_lay M6 ∧ ((v5 ≤ 0 → (q_At q_m123 (q_WP q_Pr d) P 13 [(0, .inr (.inr 0)), (1, .inl x1), (2, .inl x2), (3, .inl (w32 (x3 + 1)))] [] M6 c s)) ∧ (0 < v5 → (q_At q_m123 (q_WP q_Pr d) P 13 [(0, .inr (.inr 0)), (1, .inl x1), (2, .inl (w32 (x2 + 1))), (3, .inl (w32 (x3 + 1)))] [] M6 c s))))))))))))))) : q_At q_m123 (q_WP q_Pr d) P 13 [(0, .inr (.inr 0)), (1, .inl x1), (2, .inl x2), (3, .inl x3)] [] M c s := by
  refine s_123_13 ?_
  rw [lk0 hl, lr0_10 hl, lk21 hl, lr21_0 hl, ll22 hl, lk22 hl]
  refine ⟨rfl, ?_⟩
  refine ⟨rfl, ?_⟩
  refine ⟨?_, ?_⟩
  · replace h := h.1
    intro g
    replace h := h g
    exact h
  · replace h := h.2
    intro g
    replace h := h g
    refine ⟨rfl, ?_⟩
    refine ⟨rfl, ?_⟩
    refine ⟨⟨rfl, h.1⟩, ?_⟩
    replace h := h.2
    refine ⟨rfl, ?_⟩
    refine q_WP_mono _ _ _ _ _ _ (fun v1 M2 hh => ?_) h
    obtain ⟨hlM2, h⟩ := hh
    rw [lk0 hlM2, lr0_10 hlM2, lk21 hlM2, lr21_1 hlM2, ll23 hlM2, lk23 hlM2]
    refine ⟨?_, ?_⟩
    · replace h := h.1
      intro g
      replace h := h g
      exact h
    · replace h := h.2
      intro g
      replace h := h g
      refine ⟨rfl, ?_⟩
      refine ⟨rfl, ?_⟩
      refine ⟨⟨⟨by decide, by decide⟩, h.1⟩, ?_⟩
      replace h := h.2
      refine ⟨h.1, ?_⟩
      replace h := h.2
      refine q_WP_mono _ _ _ _ _ _ (fun v3 M4 hh => ?_) h
      obtain ⟨hlM4, h⟩ := hh
      refine ⟨h.1, ?_⟩
      replace h := h.2
      refine q_WP_mono _ _ _ _ _ _ (fun v5 M6 hh => ?_) h
      obtain ⟨hlM6, h⟩ := hh
      refine ⟨?_, ?_⟩
      · replace h := h.1
        intro g
        replace h := h g
        exact h
      · replace h := h.2
        intro g
        replace h := h g
        exact h
theorem t_124_0 {d : Nat} {P : Int → qM → Prop} {x1 : Int} {M : qM} {c s : Nat} (hl : q_lay M) (h : (q_At q_m124 (q_WP q_Pr d) P 4 [(0, .inr (.inr 0)), (1, .inl x1), (2, .inl (-1 : Int)), (3, .inl (0 : Int))] [] M c s)) : q_At q_m124 (q_WP q_Pr d) P 0 [(0, .inr (.inr 0)), (1, .inl x1)] [] M c s := by
  refine s_124_0 ?_
  exact h
theorem t_124_4 {d : Nat} {P : Int → qM → Prop} {x1 x2 x3 : Int} {M : qM} {c s : Nat} (hl : q_lay M) (h : (((q_nm M 21 2) ≤ x3 → (P x2 M)) ∧ (x3 < (q_nm M 21 2) → ((0 ≤ x3 ∧ x3 < 20) ∧ q_WP q_Pr d 139 [.inr (.inr 0), .inl (q_nm M 22 x3)] M (fun v1 M2 => q_lay M2 ∧ ((¬ v1 = -1 → ((0 ≤ x3 ∧ x3 < 20) ∧ ((q_kd M2 v1 = 1) ∧ q_WP q_Pr d 30 [.inr (.inr v1), .inr (.inr (q_rf M2 23 x3))] M2 (fun v3 M4 => q_lay M4 ∧ ((x1 = 0 → ((x2 ≤ v3 → (q_At q_m124 (q_WP q_Pr d) P 84 [(0, .inr (.inr 0)), (1, .inl x1), (2, .inl x2), (3, .inl x3), (5, .inl v3)] [.inl (0 : Int)] M4 c s)) ∧ (v3 < x2 → (q_At q_m124 (q_WP q_Pr d) P 84 [(0, .inr (.inr 0)), (1, .inl x1), (2, .inl x2), (3, .inl x3), (5, .inl v3)] [.inl (1 : Int)] M4 c s)))) ∧ (¬ x1 = 0 → ((v3 ≤ x2 → (q_At q_m124 (q_WP q_Pr d) P 84 [(0, .inr (.inr 0)), (1, .inl x1), (2, .inl x2), (3, .inl x3), (5, .inl v3)] [.inl (0 : Int)] M4 c s)) ∧ (x2 < v3 → (q_At q_m124 (q_WP q_Pr d) P 84 [(0, .inr (.inr 0)), (1, .inl x1), (2, .inl x2), (3, .inl x3), (5, .inl v3)] [.inl (1 : Int)] M4 c s))))))))) ∧ (v1 = -1 → ((x1 = 0 → ((x2 ≤ (-1 : Int) → (q_At q_m124 (q_WP q_Pr d) P 84 [(0, .inr (.inr 0)), (1, .inl x1), (2, .inl x2), (3, .inl x3), (5, .inl (-1 : Int))] [.inl (0 : Int)] M2 c s)) ∧ ((-1 : Int) < x2 → (q_At q_m124 (q_WP q_Pr d) P 84 [(0, .inr (.inr 0)), (1, .inl x1), (2, .inl x2), (3, .inl x3), (5, .inl (-1 : Int))] [.inl (1 : Int)] M2 c s)))) ∧ (¬ x1 = 0 → (((-1 : Int) ≤ x2 → (q_At q_m124 (q_WP q_Pr d) P 84 [(0, .inr (.inr 0)), (1, .inl x1), (2, .inl x2), (3, .inl x3), (5, .inl (-1 : Int))] [.inl (0 : Int)] M2 c s)) ∧ (x2 < (-1 : Int) → (q_At q_m124 (q_WP q_Pr d) P 84 [(0, .inr (.inr 0)), (1, .inl x1), (2, .inl x2), (3, .inl x3), (5, .inl (-1 : Int))] [.inl (1 : Int)] M2 c s)))))))))))) : q_At q_m124 (q_WP q_Pr d) P 4 [(0, .inr (.inr 0)), (1, .inl x1), (2, .inl x2), (3, .inl x3)] [] M c s := by
  refine s_124_4 ?_
  rw [lk0 hl, lr0_10 hl, lk21 hl, lr21_0 hl, ll22 hl, lk22 hl]
  refine ⟨rfl, ?_⟩
  refine ⟨rfl, ?_⟩
  refine ⟨?_, ?_⟩
  · replace h := h.1
    intro g
    replace h := h g
    exact h
  · replace h := h.2
    intro g
    replace h := h g
    refine ⟨rfl, ?_⟩
    refine ⟨rfl, ?_⟩
    refine ⟨⟨rfl, h.1⟩, ?_⟩
    replace h := h.2
    refine ⟨rfl, ?_⟩
    refine q_WP_mono _ _ _ _ _ _ (fun v1 M2 hh => ?_) h
    obtain ⟨hlM2, h⟩ := hh
    rw [lk0 hlM2, lr0_10 hlM2, lk21 hlM2, lr21_1 hlM2, ll23 hlM2, lk23 hlM2]
    refine ⟨?_, ?_⟩
    · replace h := h.1
      intro g
      replace h := h g
      refine ⟨rfl, ?_⟩
      refine ⟨rfl, ?_⟩
      refine ⟨⟨⟨by decide, by decide⟩, h.1⟩, ?_⟩
      replace h := h.2
      refine ⟨h.1, ?_⟩
      replace h := h.2
      refine q_WP_mono _ _ _ _ _ _ (fun v3 M4 hh => ?_) h
      obtain ⟨hlM4, h⟩ := hh
      refine ⟨?_, ?_⟩
      · replace h := h.1
        intro g
        replace h := h g
        refine ⟨?_, ?_⟩
        · replace h := h.1
          intro g
          replace h := h g
          exact h
        · replace h := h.2
          intro g
          replace h := h g
          exact h
      · replace h := h.2
        intro g
        replace h := h g
        refine ⟨?_, ?_⟩
        · replace h := h.1
          intro g
          replace h := h g
          exact h
        · replace h := h.2
          intro g
          replace h := h g
          exact h
    · replace h := h.2
      intro g
      replace h := h g
      refine ⟨?_, ?_⟩
      · replace h := h.1
        intro g
        replace h := h g
        refine ⟨?_, ?_⟩
        · replace h := h.1
          intro g
          replace h := h g
          exact h
        · replace h := h.2
          intro g
          replace h := h g
          exact h
      · replace h := h.2
        intro g
        replace h := h g
        refine ⟨?_, ?_⟩
        · replace h := h.1
          intro g
          replace h := h g
          exact h
        · replace h := h.2
          intro g
          replace h := h g
          exact h
theorem t_124_84 {d : Nat} {P : Int → qM → Prop} {x1 x2 x3 x5 y0 : Int} {M : qM} {c s : Nat} (hl : q_lay M) (h : ((x5 = (-1 : Int) → (q_At q_m124 (q_WP q_Pr d) P 105 [(0, .inr (.inr 0)), (1, .inl x1), (2, .inl x2), (3, .inl x3)] [] M c s)) ∧ (¬ x5 = (-1 : Int) → ((x2 = (-1 : Int) → (q_At q_m124 (q_WP q_Pr d) P 105 [(0, .inr (.inr 0)), (1, .inl x1), (2, .inl x5), (3, .inl x3)] [] M c s)) ∧ (¬ x2 = (-1 : Int) → ((y0 = 0 → (q_At q_m124 (q_WP q_Pr d) P 105 [(0, .inr (.inr 0)), (1, .inl x1), (2, .inl x2), (3, .inl x3)] [] M c s)) ∧ (¬ y0 = 0 → (q_At q_m124 (q_WP q_Pr d) P 105 [(0, .inr (.inr 0)), (1, .inl x1), (2, .inl x5), (3, .inl x3)] [] M c s)))))))) : q_At q_m124 (q_WP q_Pr d) P 84 [(0, .inr (.inr 0)), (1, .inl x1), (2, .inl x2), (3, .inl x3), (5, .inl x5)] [.inl y0] M c s := by
  refine s_124_84 ?_
  refine ⟨?_, ?_⟩
  · replace h := h.1
    intro g
    replace h := h g
    exact h
  · replace h := h.2
    intro g
    replace h := h g
    refine ⟨?_, ?_⟩
    · replace h := h.1
      intro g
      replace h := h g
      exact h
    · replace h := h.2
      intro g
      replace h := h g
      refine ⟨?_, ?_⟩
      · replace h := h.1
        intro g
        replace h := h g
        exact h
      · replace h := h.2
        intro g
        replace h := h g
        exact h
theorem t_124_105 {d : Nat} {P : Int → qM → Prop} {x1 x2 x3 : Int} {M : qM} {c s : Nat} (hl : q_lay M) (h : (q_At q_m124 (q_WP q_Pr d) P 4 [(0, .inr (.inr 0)), (1, .inl x1), (2, .inl x2), (3, .inl (w32 (x3 + 1)))] [] M c s)) : q_At q_m124 (q_WP q_Pr d) P 105 [(0, .inr (.inr 0)), (1, .inl x1), (2, .inl x2), (3, .inl x3)] [] M c s := by
  refine s_124_105 ?_
  exact h
theorem t_125_0 {d : Nat} {P : Int → qM → Prop} {x1 : Int} {M : qM} {c s : Nat} (hl : q_lay M) (h : (q_At q_m125 (q_WP q_Pr d) P 4 [(0, .inr (.inr 0)), (1, .inl x1), (2, .inl (0 : Int)), (3, .inl (0 : Int))] [] M c s)) : q_At q_m125 (q_WP q_Pr d) P 0 [(0, .inr (.inr 0)), (1, .inl x1)] [] M c s := by
  refine s_125_0 ?_
  exact h
theorem t_125_4 {d : Nat} {P : Int → qM → Prop} {x1 x2 x3 : Int} {M : qM} {c s : Nat} (hl : q_lay M) (h : (((q_nm M 21 2) ≤ x3 → (P x2 M)) ∧ (x3 < (q_nm M 21 2) → ((0 ≤ x3 ∧ x3 < 20) ∧ q_WP q_Pr d 139 [.inr (.inr 0), .inl (q_nm M 22 x3)] M (fun v1 M2 => q_lay M2 ∧ ((v1 = -1 → (q_At q_m125 (q_WP q_Pr d) P 4 [(0, .inr (.inr 0)), (1, .inl x1), (2, .inl x2), (3, .inl (w32 (x3 + 1)))] [] M2 c s)) ∧ (¬ v1 = -1 → ((0 ≤ x3 ∧ x3 < 20) ∧ ((q_kd M2 v1 = 1) ∧ q_WP q_Pr d 31 [.inr (.inr v1), .inr (.inr (q_rf M2 23 x3)), .inl x1] M2 (fun v3 M4 => q_lay M4 ∧ ((v3 = 0 → (q_At q_m125 (q_WP q_Pr d) P 4 [(0, .inr (.inr 0)), (1, .inl x1), (2, .inl x2), (3, .inl (w32 (x3 + 1)))] [] M4 c s)) ∧ (¬ v3 = 0 → (q_At q_m125 (q_WP q_Pr d) P 4 [(0, .inr (.inr 0)), (1, .inl x1), (2, .inl (w32 (x2 + 1))), (3, .inl (w32 (x3 + 1)))] [] M4 c s))))))))))))) : q_At q_m125 (q_WP q_Pr d) P 4 [(0, .inr (.inr 0)), (1, .inl x1), (2, .inl x2), (3, .inl x3)] [] M c s := by
  refine s_125_4 ?_
  rw [lk0 hl, lr0_10 hl, lk21 hl, lr21_0 hl, ll22 hl, lk22 hl]
  refine ⟨rfl, ?_⟩
  refine ⟨rfl, ?_⟩
  refine ⟨?_, ?_⟩
  · replace h := h.1
    intro g
    replace h := h g
    exact h
  · replace h := h.2
    intro g
    replace h := h g
    refine ⟨rfl, ?_⟩
    refine ⟨rfl, ?_⟩
    refine ⟨⟨rfl, h.1⟩, ?_⟩
    replace h := h.2
    refine ⟨rfl, ?_⟩
    refine q_WP_mono _ _ _ _ _ _ (fun v1 M2 hh => ?_) h
    obtain ⟨hlM2, h⟩ := hh
    rw [lk0 hlM2, lr0_10 hlM2, lk21 hlM2, lr21_1 hlM2, ll23 hlM2, lk23 hlM2]
    refine ⟨?_, ?_⟩
    · replace h := h.1
      intro g
      replace h := h g
      exact h
    · replace h := h.2
      intro g
      replace h := h g
      refine ⟨rfl, ?_⟩
      refine ⟨rfl, ?_⟩
      refine ⟨⟨⟨by decide, by decide⟩, h.1⟩, ?_⟩
      replace h := h.2
      refine ⟨h.1, ?_⟩
      replace h := h.2
      refine q_WP_mono _ _ _ _ _ _ (fun v3 M4 hh => ?_) h
      obtain ⟨hlM4, h⟩ := hh
      refine ⟨?_, ?_⟩
      · replace h := h.1
        intro g
        replace h := h g
        exact h
      · replace h := h.2
        intro g
        replace h := h g
        exact h
theorem t_126_0 {d : Nat} {P : Int → qM → Prop} {x1 x2 x3 : Int} {M : qM} {c s : Nat} (hl : q_lay M) (h : q_WP q_Pr (d + 1) 141 [.inr (.inr 0), .inl x1] M (fun v1 M2 => q_lay M2 ∧ ((v1 = -1 → (P (-1 : Int) M2)) ∧ (¬ v1 = -1 → (((0 ≤ x2 ∧ x2 < 4) ∧ ¬ q_rf M2 14 x2 = -1 → (((0 ≤ x3 ∧ x3 < 4) ∧ ¬ q_rf M2 14 x3 = -1 → ((q_kd M2 v1 = 1) ∧ q_WP q_Pr (d + 1) 32 [.inr (.inr v1), .inl x2, .inl x3] M2 (fun v7 M8 => q_lay M8 ∧ (P v7 M8)))) ∧ (¬ ((0 ≤ x3 ∧ x3 < 4) ∧ ¬ q_rf M2 14 x3 = -1) → (P (-1 : Int) M2)))) ∧ (¬ ((0 ≤ x2 ∧ x2 < 4) ∧ ¬ q_rf M2 14 x2 = -1) → (P (-1 : Int) M2))))))) : q_At q_m126 (q_WP q_Pr (d + 1)) P 0 [(0, .inr (.inr 0)), (1, .inl x1), (2, .inl x2), (3, .inl x3)] [] M c s := by
  refine s_126_0 ?_
  rw [lk0 hl]
  refine ⟨rfl, ?_⟩
  refine q_WP_mono _ _ _ _ _ _ (fun v1 M2 hh => ?_) h
  obtain ⟨hlM2, h⟩ := hh
  rw [lk0 hlM2]
  refine ⟨?_, ?_⟩
  · replace h := h.1
    intro g
    replace h := h g
    exact h
  · replace h := h.2
    intro g
    replace h := h g
    refine ⟨rfl, ?_⟩
    refine p_136 hlM2 (fun g => ?_) (fun g => ?_)
    · replace h := h.1 g
      rw [lk0 hlM2]
      refine ⟨fun g => absurd g (by decide), fun _ => ?_⟩
      refine ⟨rfl, ?_⟩
      refine p_136 hlM2 (fun g => ?_) (fun g => ?_)
      · replace h := h.1 g
        refine ⟨fun _ => ?_, fun g => absurd g (by decide)⟩
        refine ⟨h.1, ?_⟩
        replace h := h.2
        refine q_WP_mono _ _ _ _ _ _ (fun v7 M8 hh => ?_) h
        obtain ⟨hlM8, h⟩ := hh
        exact h
      · replace h := h.2 g
        refine ⟨fun g => absurd g (by decide), fun _ => ?_⟩
        exact h
    · replace h := h.2 g
      rw [lk0 hlM2]
      refine ⟨fun _ => ?_, fun g => absurd g (by decide)⟩
      exact h
theorem t_127_0 {d : Nat} {P : Int → qM → Prop} {M : qM} {c s : Nat} (hl : q_lay M) (h : q_WP q_Pr d 137 [.inr (.inr 0)] M (fun v1 M2 => q_lay M2 ∧ (((2 : Int) ≤ v1 → (q_At q_m127 (q_WP q_Pr d) P 16 [(0, .inr (.inr 0)), (1, .inl (-1 : Int)), (2, .inl (-1 : Int)), (3, .inl (0 : Int))] [] M2 c s)) ∧ (v1 < (2 : Int) → (P (-1 : Int) M2))))) : q_At q_m127 (q_WP q_Pr d) P 0 [(0, .inr (.inr 0))] [] M c s := by
  refine s_127_0 ?_
  rw [lk0 hl]
  refine ⟨rfl, ?_⟩
  refine q_WP_mono _ _ _ _ _ _ (fun v1 M2 hh => ?_) h
  obtain ⟨hlM2, h⟩ := hh
  refine ⟨?_, ?_⟩
  · replace h := h.1
    intro g
    replace h := h g
    exact h
  · replace h := h.2
    intro g
    replace h := h g
    exact h
theorem t_127_16 {d : Nat} {P : Int → qM → Prop} {x1 x2 x3 : Int} {M : qM} {c s : Nat} (hl : q_lay M) (h : (((q_nm M 0 3) ≤ x3 → (P x1 M)) ∧ (x3 < (q_nm M 0 3) → q_WP q_Pr d 141 [.inr (.inr 0), .inl x3] M (fun v1 M2 => q_lay M2 ∧ ((¬ v1 = -1 → q_WP q_Pr d 143 [.inr (.inr 0), .inr (.inr v1)] M2 (fun v3 M4 => q_lay M4 ∧ ((v3 ≤ x2 → (q_At q_m127 (q_WP q_Pr d) P 16 [(0, .inr (.inr 0)), (1, .inl x1), (2, .inl x2), (3, .inl (w32 (x3 + 1)))] [] M4 c s)) ∧ (x2 < v3 → (q_At q_m127 (q_WP q_Pr d) P 16 [(0, .inr (.inr 0)), (1, .inl x3), (2, .inl v3), (3, .inl (w32 (x3 + 1)))] [] M4 c s))))) ∧ (v1 = -1 → (((-1 : Int) ≤ x2 → (q_At q_m127 (q_WP q_Pr d) P 16 [(0, .inr (.inr 0)), (1, .inl x1), (2, .inl x2), (3, .inl (w32 (x3 + 1)))] [] M2 c s)) ∧ (x2 < (-1 : Int) → (q_At q_m127 (q_WP q_Pr d) P 16 [(0, .inr (.inr 0)), (1, .inl x3), (2, .inl (-1 : Int)), (3, .inl (w32 (x3 + 1)))] [] M2 c s))))))))) : q_At q_m127 (q_WP q_Pr d) P 16 [(0, .inr (.inr 0)), (1, .inl x1), (2, .inl x2), (3, .inl x3)] [] M c s := by
  refine s_127_16 ?_
  rw [lk0 hl]
  refine ⟨rfl, ?_⟩
  refine ⟨?_, ?_⟩
  · replace h := h.1
    intro g
    replace h := h g
    exact h
  · replace h := h.2
    intro g
    replace h := h g
    refine ⟨rfl, ?_⟩
    refine q_WP_mono _ _ _ _ _ _ (fun v1 M2 hh => ?_) h
    obtain ⟨hlM2, h⟩ := hh
    rw [lk0 hlM2]
    refine ⟨?_, ?_⟩
    · replace h := h.1
      intro g
      replace h := h g
      refine ⟨rfl, ?_⟩
      refine q_WP_mono _ _ _ _ _ _ (fun v3 M4 hh => ?_) h
      obtain ⟨hlM4, h⟩ := hh
      refine ⟨?_, ?_⟩
      · replace h := h.1
        intro g
        replace h := h g
        exact h
      · replace h := h.2
        intro g
        replace h := h g
        exact h
    · replace h := h.2
      intro g
      replace h := h g
      refine ⟨?_, ?_⟩
      · replace h := h.1
        intro g
        replace h := h g
        exact h
      · replace h := h.2
        intro g
        replace h := h g
        exact h
theorem t_128_0 {d : Nat} {P : Int → qM → Prop} {x1 x2 x3 : Int} {M : qM} {c s : Nat} (hl : q_lay M) (h : q_WP q_Pr (d + 1) 139 [.inr (.inr 0), .inl x1] M (fun v1 M2 => q_lay M2 ∧ ((v1 = -1 → (P (-1 : Int) M2)) ∧ (¬ v1 = -1 → ((0 ≤ x2 ∧ x2 ≤ 8 → (q_At q_m128 (q_WP q_Pr (d + 1)) P 27 [(2, .inl x2), (3, .inl x3), (4, .inr (.inr v1)), (5, .inl (0 : Int)), (6, .inl (0 : Int))] [] M2 c s)) ∧ (¬ (0 ≤ x2 ∧ x2 ≤ 8) → (P (-1 : Int) M2))))))) : q_At q_m128 (q_WP q_Pr (d + 1)) P 0 [(0, .inr (.inr 0)), (1, .inl x1), (2, .inl x2), (3, .inl x3)] [] M c s := by
  refine s_128_0 ?_
  rw [lk0 hl]
  refine ⟨rfl, ?_⟩
  refine q_WP_mono _ _ _ _ _ _ (fun v1 M2 hh => ?_) h
  obtain ⟨hlM2, h⟩ := hh
  refine ⟨?_, ?_⟩
  · replace h := h.1
    intro g
    replace h := h g
    exact h
  · replace h := h.2
    intro g
    replace h := h g
    refine p_134 (fun g => ?_) (fun g => ?_)
    · replace h := h.1 g
      refine ⟨fun _ => ?_, fun g => absurd g (by decide)⟩
      exact h
    · replace h := h.2 g
      refine ⟨fun g => absurd g (by decide), fun _ => ?_⟩
      exact h
theorem t_128_27 {d : Nat} {P : Int → qM → Prop} {x2 x3 x4 x5 x6 : Int} {M : qM} {c s : Nat} (hl : q_lay M) (h : ((q_kd M x4 = 1) ∧ (((q_nm M x4 3) ≤ x6 → (P x5 M)) ∧ (x6 < (q_nm M x4 3) → ((q_kd M x4 = 1) ∧ (((q_kd M (q_rf M x4 4) = 12 ∨ q_kd M (q_rf M x4 4) = 16) ∧ 0 ≤ x6 ∧ x6 < q_ln M (q_rf M x4 4)) ∧ ((¬ (q_nm M (q_rf M x4 4) x6) = x2 → (q_At q_m128 (q_WP q_Pr d) P 27 [(2, .inl x2), (3, .inl x3), (4, .inr (.inr x4)), (5, .inl x5), (6, .inl (w32 (x6 + 1)))] [] M c s)) ∧ ((q_nm M (q_rf M x4 4) x6) = x2 → ((q_kd M x4 = 1) ∧ (((q_kd M (q_rf M x4 8) = 12 ∨ q_kd M (q_rf M x4 8) = 16) ∧ 0 ≤ x6 ∧ x6 < q_ln M (q_rf M x4 8)) ∧ ((¬ (q_nm M (q_rf M x4 8) x6) = 0 → (q_At q_m128 (q_WP q_Pr d) P 27 [(2, .inl x2), (3, .inl x3), (4, .inr (.inr x4)), (5, .inl (w32 (x5 + 1))), (6, .inl (w32 (x6 + 1)))] [] M c s)) ∧ ((q_nm M (q_rf M x4 8) x6) = 0 → ((¬ x3 = 0 → (q_At q_m128 (q_WP q_Pr d) P 27 [(2, .inl x2), (3, .inl x3), (4, .inr (.inr x4)), (5, .inl x5), (6, .inl (w32 (x6 + 1)))] [] M c s)) ∧ (x3 = 0 → (q_At q_m128 (q_WP q_Pr d) P 27 [(2, .inl x2), (3, .inl x3), (4, .inr (.inr x4)), (5, .inl (w32 (x5 + 1))), (6, .inl (w32 (x6 + 1)))] [] M c s))))))))))))))) : q_At q_m128 (q_WP q_Pr d) P 27 [(2, .inl x2), (3, .inl x3), (4, .inr (.inr x4)), (5, .inl x5), (6, .inl x6)] [] M c s := by
  refine s_128_27 ?_
  refine ⟨h.1, ?_⟩
  replace h := h.2
  refine ⟨?_, ?_⟩
  · replace h := h.1
    intro g
    replace h := h g
    exact h
  · replace h := h.2
    intro g
    replace h := h g
    refine ⟨h.1, ?_⟩
    replace h := h.2
    refine ⟨h.1, ?_⟩
    replace h := h.2
    refine ⟨?_, ?_⟩
    · replace h := h.1
      intro g
      replace h := h g
      exact h
    · replace h := h.2
      intro g
      replace h := h g
      refine ⟨h.1, ?_⟩
      replace h := h.2
      refine ⟨h.1, ?_⟩
      replace h := h.2
      refine ⟨?_, ?_⟩
      · replace h := h.1
        intro g
        replace h := h g
        exact h
      · replace h := h.2
        intro g
        replace h := h g
        refine ⟨?_, ?_⟩
        · replace h := h.1
          intro g
          replace h := h g
          exact h
        · replace h := h.2
          intro g
          replace h := h g
          exact h
theorem t_129_0 {d : Nat} {P : Int → qM → Prop} {x1 x2 x3 x4 : Int} {M : qM} {c s : Nat} (hl : q_lay M) (h : q_WP q_Pr d 140 [.inr (.inr 0), .inl x1, .inl x2] M (fun v1 M2 => q_lay M2 ∧ ((v1 = -1 → (P (-1 : Int) M2)) ∧ (¬ v1 = -1 → ((x3 < 0 → (P (-1 : Int) M2)) ∧ (0 ≤ x3 → ((x3 < (10 : Int) → (q_At q_m129 (q_WP q_Pr d) P 31 [(2, .inl x2), (3, .inl x3), (4, .inl x4), (5, .inr (.inr v1)), (6, .inl (0 : Int)), (7, .inl (0 : Int))] [] M2 c s)) ∧ ((10 : Int) ≤ x3 → (P (-1 : Int) M2))))))))) : q_At q_m129 (q_WP q_Pr d) P 0 [(0, .inr (.inr 0)), (1, .inl x1), (2, .inl x2), (3, .inl x3), (4, .inl x4)] [] M c s := by
  refine s_129_0 ?_
  rw [lk0 hl]
  refine ⟨rfl, ?_⟩
  refine q_WP_mono _ _ _ _ _ _ (fun v1 M2 hh => ?_) h
  obtain ⟨hlM2, h⟩ := hh
  refine ⟨?_, ?_⟩
  · replace h := h.1
    intro g
    replace h := h g
    exact h
  · replace h := h.2
    intro g
    replace h := h g
    refine ⟨?_, ?_⟩
    · replace h := h.1
      intro g
      replace h := h g
      exact h
    · replace h := h.2
      intro g
      replace h := h g
      refine ⟨?_, ?_⟩
      · replace h := h.1
        intro g
        replace h := h g
        exact h
      · replace h := h.2
        intro g
        replace h := h g
        exact h
theorem t_129_31 {d : Nat} {P : Int → qM → Prop} {x2 x3 x4 x5 x6 x7 : Int} {M : qM} {c s : Nat} (hl : q_lay M) (h : ((q_kd M x5 = 1) ∧ (((q_nm M x5 3) ≤ x7 → ((q_kd M x5 = 1) ∧ ((q_kd M (q_rf M x5 13) = 14 ∧ 0 ≤ x2 ∧ x2 < q_ln M (q_rf M x5 13)) ∧ q_WP q_Pr d 144 [.inl x6, .inl (q_nm M (q_rf M x5 13) x2), .inl x4] M (fun v1 M2 => q_lay M2 ∧ (P v1 M2))))) ∧ (x7 < (q_nm M x5 3) → ((q_kd M x5 = 1) ∧ ((q_kd M (q_rf M x5 9) = 14 ∧ 0 ≤ x7 ∧ x7 < q_ln M (q_rf M x5 9)) ∧ ((¬ (q_and (q_shr (q_nm M (q_rf M x5 9) x7) x3) (1 : Int)) = (1 : Int) → (q_At q_m129 (q_WP q_Pr d) P 31 [(2, .inl x2), (3, .inl x3), (4, .inl x4), (5, .inr (.inr x5)), (6, .inl x6), (7, .inl (w32 (x7 + 1)))] [] M c s)) ∧ ((q_and (q_shr (q_nm M (q_rf M x5 9) x7) x3) (1 : Int)) = (1 : Int) → ((q_kd M x5 = 1) ∧ (((17 ≤ q_kd M (q_rf M x5 14) ∧ q_kd M (q_rf M x5 14) ≤ 20) ∧ 0 ≤ x2 ∧ x2 < q_ln M (q_rf M x5 14)) ∧ ((q_kd M (q_rf M (q_rf M x5 14) x2) = 14 ∧ 0 ≤ x7 ∧ x7 < q_ln M (q_rf M (q_rf M x5 14) x2)) ∧ (q_At q_m129 (q_WP q_Pr d) P 31 [(2, .inl x2), (3, .inl x3), (4, .inl x4), (5, .inr (.inr x5)), (6, .inl (w32 (x6 + (q_nm M (q_rf M (q_rf M x5 14) x2) x7)))), (7, .inl (w32 (x7 + 1)))] [] M c s)))))))))))) : q_At q_m129 (q_WP q_Pr d) P 31 [(2, .inl x2), (3, .inl x3), (4, .inl x4), (5, .inr (.inr x5)), (6, .inl x6), (7, .inl x7)] [] M c s := by
  refine s_129_31 ?_
  refine ⟨h.1, ?_⟩
  replace h := h.2
  refine ⟨?_, ?_⟩
  · replace h := h.1
    intro g
    replace h := h g
    refine ⟨h.1, ?_⟩
    replace h := h.2
    refine ⟨h.1, ?_⟩
    replace h := h.2
    refine q_WP_mono _ _ _ _ _ _ (fun v1 M2 hh => ?_) h
    obtain ⟨hlM2, h⟩ := hh
    exact h
  · replace h := h.2
    intro g
    replace h := h g
    refine ⟨h.1, ?_⟩
    replace h := h.2
    refine ⟨h.1, ?_⟩
    replace h := h.2
    refine ⟨?_, ?_⟩
    · replace h := h.1
      intro g
      replace h := h g
      exact h
    · replace h := h.2
      intro g
      replace h := h g
      refine ⟨h.1, ?_⟩
      replace h := h.2
      refine ⟨h.1, ?_⟩
      replace h := h.2
      refine ⟨h.1, ?_⟩
      replace h := h.2
      exact h
theorem t_130_0 {d : Nat} {P : Int → qM → Prop} {x1 x2 x3 x4 : Int} {M : qM} {c s : Nat} (hl : q_lay M) (h : q_WP q_Pr (d + 1) 140 [.inr (.inr 0), .inl x1, .inl x2] M (fun v1 M2 => q_lay M2 ∧ ((v1 = -1 → (P (-1 : Int) M2)) ∧ (¬ v1 = -1 → ((0 ≤ x3 ∧ x3 ≤ 8 → q_WP q_Pr (d + 1) 142 [.inr (.inr 0), .inr (.inr v1), .inl (4 : Int)] M2 (fun v5 M6 => q_lay M6 ∧ (q_At q_m130 (q_WP q_Pr (d + 1)) P 38 [(2, .inl x2), (3, .inl x3), (4, .inl x4), (5, .inr (.inr v1)), (6, .inl (0 : Int)), (7, .inl (0 : Int)), (8, .inl (0 : Int))] [] M6 c s))) ∧ (¬ (0 ≤ x3 ∧ x3 ≤ 8) → (P (-1 : Int) M2))))))) : q_At q_m130 (q_WP q_Pr (d + 1)) P 0 [(0, .inr (.inr 0)), (1, .inl x1), (2, .inl x2), (3, .inl x3), (4, .inl x4)] [] M c s := by
  refine s_130_0 ?_
  rw [lk0 hl]
  refine ⟨rfl, ?_⟩
  refine q_WP_mono _ _ _ _ _ _ (fun v1 M2 hh => ?_) h
  obtain ⟨hlM2, h⟩ := hh
  refine ⟨?_, ?_⟩
  · replace h := h.1
    intro g
    replace h := h g
    exact h
  · replace h := h.2
    intro g
    replace h := h g
    refine p_134 (fun g => ?_) (fun g => ?_)
    · replace h := h.1 g
      rw [lk0 hlM2]
      refine ⟨fun _ => ?_, fun g => absurd g (by decide)⟩
      refine ⟨rfl, ?_⟩
      refine q_WP_mono _ _ _ _ _ _ (fun v5 M6 hh => ?_) h
      obtain ⟨hlM6, h⟩ := hh
      exact h
    · replace h := h.2 g
      rw [lk0 hlM2]
      refine ⟨fun g => absurd g (by decide), fun _ => ?_⟩
      exact h
theorem t_130_38 {d : Nat} {P : Int → qM → Prop} {x2 x3 x4 x5 x6 x7 x8 : Int} {M : qM} {c s : Nat} (hl : q_lay M) (h : ((q_kd M x5 = 1) ∧ (((q_nm M x5 3) ≤ x8 → q_WP q_Pr d 144 [.inl x6, .inl x7, .inl x4] M (fun v1 M2 => q_lay M2 ∧ (P v1 M2))) ∧ (x8 < (q_nm M x5 3) → ((q_kd M x5 = 1) ∧ (((17 ≤ q_kd M (q_rf M x5 14) ∧ q_kd M (q_rf M x5 14) ≤ 20) ∧ 0 ≤ x2 ∧ x2 < q_ln M (q_rf M x5 14)) ∧ ((q_kd M (q_rf M (q_rf M x5 14) x2) = 14 ∧ 0 ≤ x8 ∧ x8 < q_ln M (q_rf M (q_rf M x5 14) x2)) ∧ ((q_kd M x5 = 1) ∧ (((17 ≤ q_kd M (q_rf M x5 14) ∧ q_kd M (q_rf M x5 14) ≤ 20) ∧ 0 ≤ (4 : Int) ∧ (4 : Int) < q_ln M (q_rf M x5 14)) ∧ ((q_kd M (q_rf M (q_rf M x5 14) (4 : Int)) = 14 ∧ 0 ≤ x8 ∧ x8 < q_ln M (q_rf M (q_rf M x5 14) (4 : Int))) ∧ ((q_kd M x5 = 1) ∧ (((q_kd M (q_rf M x5 4) = 12 ∨ q_kd M (q_rf M x5 4) = 16) ∧ 0 ≤ x8 ∧ x8 < q_ln M (q_rf M x5 4)) ∧ ((¬ (q_nm M (q_rf M x5 4) x8) = x3 → (q_At q_m130 (q_WP q_Pr d) P 38 [(2, .inl x2), (3, .inl x3), (4, .inl x4), (5, .inr (.inr x5)), (6, .inl x6), (7, .inl (w32 (x7 + (w32 ((q_nm M (q_rf M (q_rf M x5 14) x2) x8) * (q_nm M (q_rf M (q_rf M x5 14) (4 : Int)) x8)))))), (8, .inl (w32 (x8 + 1)))] [] M c s)) ∧ ((q_nm M (q_rf M x5 4) x8) = x3 → (q_At q_m130 (q_WP q_Pr d) P 38 [(2, .inl x2), (3, .inl x3), (4, .inl x4), (5, .inr (.inr x5)), (6, .inl (w32 (x6 + (w32 ((q_nm M (q_rf M (q_rf M x5 14) x2) x8) * (q_nm M (q_rf M (q_rf M x5 14) (4 : Int)) x8)))))), (7, .inl (w32 (x7 + (w32 ((q_nm M (q_rf M (q_rf M x5 14) x2) x8) * (q_nm M (q_rf M (q_rf M x5 14) (4 : Int)) x8)))))), (8, .inl (w32 (x8 + 1)))] [] M c s))))))))))))))) : q_At q_m130 (q_WP q_Pr d) P 38 [(2, .inl x2), (3, .inl x3), (4, .inl x4), (5, .inr (.inr x5)), (6, .inl x6), (7, .inl x7), (8, .inl x8)] [] M c s := by
  refine s_130_38 ?_
  refine ⟨h.1, ?_⟩
  replace h := h.2
  refine ⟨?_, ?_⟩
  · replace h := h.1
    intro g
    replace h := h g
    refine q_WP_mono _ _ _ _ _ _ (fun v1 M2 hh => ?_) h
    obtain ⟨hlM2, h⟩ := hh
    exact h
  · replace h := h.2
    intro g
    replace h := h g
    refine ⟨h.1, ?_⟩
    replace h := h.2
    refine ⟨h.1, ?_⟩
    replace h := h.2
    refine ⟨h.1, ?_⟩
    replace h := h.2
    refine ⟨h.1, ?_⟩
    replace h := h.2
    refine ⟨h.1, ?_⟩
    replace h := h.2
    refine ⟨h.1, ?_⟩
    replace h := h.2
    refine ⟨h.1, ?_⟩
    replace h := h.2
    refine ⟨h.1, ?_⟩
    replace h := h.2
    refine ⟨?_, ?_⟩
    · replace h := h.1
      intro g
      replace h := h g
      exact h
    · replace h := h.2
      intro g
      replace h := h g
      exact h
theorem t_131_0 {d : Nat} {P : Int → qM → Prop} {M : qM} {c s : Nat} (hl : q_lay M) (h : q_WP q_Pr d 37 [.inr (.inr 64), .inr (.inr 21)] M (fun v1 M2 => q_lay M2 ∧ (P (q_nm M2 64 1) M2))) : q_At q_m131 (q_WP q_Pr d) P 0 [(0, .inr (.inr 0))] [] M c s := by
  refine s_131_0 ?_
  rw [lk0 hl, lr0_11 hl, lk64 hl, lr0_10 hl]
  refine ⟨rfl, ?_⟩
  refine ⟨rfl, ?_⟩
  refine ⟨rfl, ?_⟩
  refine q_WP_mono _ _ _ _ _ _ (fun v1 M2 hh => ?_) h
  obtain ⟨hlM2, h⟩ := hh
  rw [lk0 hlM2, lr0_11 hlM2, lk64 hlM2]
  refine ⟨rfl, ?_⟩
  refine ⟨rfl, ?_⟩
  exact h
theorem t_132_0 {d : Nat} {P : Int → qM → Prop} {x1 : Int} {M : qM} {c s : Nat} (hl : q_lay M) (h : ((x1 < 0 → (P (-1 : Int) M)) ∧ (0 ≤ x1 → (((q_nm M 64 1) ≤ x1 → (P (-1 : Int) M)) ∧ (x1 < (q_nm M 64 1) → ((0 ≤ x1 ∧ x1 < 2042) ∧ (P (q_and (q_nm M 65 x1) (255 : Int)) M))))))) : q_At q_m132 (q_WP q_Pr d) P 0 [(0, .inr (.inr 0)), (1, .inl x1)] [] M c s := by
  refine s_132_0 ?_
  rw [lk0 hl, lr0_11 hl, lk64 hl, lr64_0 hl, ll65 hl, lk65 hl]
  refine ⟨?_, ?_⟩
  · replace h := h.1
    intro g
    replace h := h g
    exact h
  · replace h := h.2
    intro g
    replace h := h g
    refine ⟨rfl, ?_⟩
    refine ⟨rfl, ?_⟩
    refine ⟨?_, ?_⟩
    · replace h := h.1
      intro g
      replace h := h g
      exact h
    · replace h := h.2
      intro g
      replace h := h g
      refine ⟨rfl, ?_⟩
      refine ⟨rfl, ?_⟩
      refine ⟨⟨Or.inl rfl, h.1⟩, ?_⟩
      replace h := h.2
      exact h
theorem t_133_0 {d : Nat} {P : Int → qM → Prop} {M : qM} {c s : Nat} (hl : q_lay M) (h : q_WP q_Pr d 39 [.inr (.inr 1), .inl (q_nm M 0 3)] M (fun v1 M2 => q_lay M2 ∧ ((v1 = 0 → (∀ M3 : qM, M3 = q_wn M2 1 1 (0 : Int) → q_lay M3 → ((0 ≤ v1 ∧ v1 ≤ 1) ∧ (P v1 M3)))) ∧ (¬ v1 = 0 → q_WP q_Pr d 35 [.inr (.inr 21), .inr (.inr 1)] M2 (fun v4 M5 => q_lay M5 ∧ (∀ M6 : qM, M6 = q_wn M5 1 1 (0 : Int) → q_lay M6 → ((0 ≤ v1 ∧ v1 ≤ 1) ∧ (P v1 M6)))))))) : q_At q_m133 (q_WP q_Pr d) P 0 [(0, .inr (.inr 0))] [] M c s := by
  refine s_133_0 ?_
  rw [lk0 hl, lr0_0 hl]
  refine ⟨rfl, ?_⟩
  refine ⟨rfl, ?_⟩
  refine q_WP_mono _ _ _ _ _ _ (fun v1 M2 hh => ?_) h
  obtain ⟨hlM2, h⟩ := hh
  rw [lk0 hlM2, lr0_0 hlM2, lk1 hlM2, lr0_10 hlM2, lk21 hlM2]
  refine ⟨?_, ?_⟩
  · replace h := h.1
    intro g
    replace h := h g
    refine ⟨rfl, ?_⟩
    refine ⟨rfl, ?_⟩
    intro M3
    have hlM3 : q_lay M3 := q_lay_wn hlM2
    replace h := h M3 rfl hlM3
    refine ⟨h.1, ?_⟩
    replace h := h.2
    exact h
  · replace h := h.2
    intro g
    replace h := h g
    refine ⟨rfl, ?_⟩
    refine ⟨rfl, ?_⟩
    refine ⟨rfl, ?_⟩
    refine q_WP_mono _ _ _ _ _ _ (fun v4 M5 hh => ?_) h
    obtain ⟨hlM5, h⟩ := hh
    rw [lk0 hlM5, lr0_0 hlM5, lk1 hlM5]
    refine ⟨rfl, ?_⟩
    refine ⟨rfl, ?_⟩
    intro M6
    have hlM6 : q_lay M6 := q_lay_wn hlM5
    replace h := h M6 rfl hlM6
    refine ⟨h.1, ?_⟩
    replace h := h.2
    exact h
theorem t_137_0 {d : Nat} {P : Int → qM → Prop} {M : qM} {c s : Nat} (hl : q_lay M) (h : (q_At q_m137 (q_WP q_Pr d) P 4 [(0, .inr (.inr 0)), (1, .inl (0 : Int)), (2, .inl (0 : Int))] [] M c s)) : q_At q_m137 (q_WP q_Pr d) P 0 [(0, .inr (.inr 0))] [] M c s := by
  refine s_137_0 ?_
  exact h
theorem t_137_4 {d : Nat} {P : Int → qM → Prop} {x1 x2 : Int} {M : qM} {c s : Nat} (hl : q_lay M) (h : (((4 : Int) ≤ x2 → (P x1 M)) ∧ (x2 < (4 : Int) → ((0 ≤ x2 ∧ x2 < 5) ∧ (((q_rf M 14 x2) = -1 → (q_At q_m137 (q_WP q_Pr d) P 4 [(0, .inr (.inr 0)), (1, .inl x1), (2, .inl (w32 (x2 + 1)))] [] M c s)) ∧ (¬ (q_rf M 14 x2) = -1 → (q_At q_m137 (q_WP q_Pr d) P 4 [(0, .inr (.inr 0)), (1, .inl (w32 (x1 + 1))), (2, .inl (w32 (x2 + 1)))] [] M c s))))))) : q_At q_m137 (q_WP q_Pr d) P 4 [(0, .inr (.inr 0)), (1, .inl x1), (2, .inl x2)] [] M c s := by
  refine s_137_4 ?_
  rw [lk0 hl, lr0_4 hl, ll14 hl, lk14 hl]
  refine ⟨?_, ?_⟩
  · replace h := h.1
    intro g
    replace h := h g
    exact h
  · replace h := h.2
    intro g
    replace h := h g
    refine ⟨rfl, ?_⟩
    refine ⟨⟨⟨by decide, by decide⟩, h.1⟩, ?_⟩
    replace h := h.2
    refine ⟨?_, ?_⟩
    · replace h := h.1
      intro g
      replace h := h g
      exact h
    · replace h := h.2
      intro g
      replace h := h g
      exact h
theorem t_138_0 {d : Nat} {P : Int → qM → Prop} {x1 : Int} {M : qM} {c s : Nat} (hl : q_lay M) (h : (let M1 := q_al M 4 (Int.ofNat (q_ns 4)); (((c + 1) ≤ 10 ∧ (s + q_ns 4) ≤ 6399) ∧ ((q_kd M1 0 = 10) ∧ ((q_kd M1 (q_top M) = 4) ∧ ((((c + 1) + 9) ≤ 10 ∧ ((s + q_ns 4) + 6393) ≤ 6399) ∧ q_WP q_Pr d 40 [.inr (.inr (q_top M)), .inr (.inr (q_rf M1 0 0))] M1 (fun v2 M3 => q_lay M3 ∧ ((q_kd M3 (q_top M) = 4) ∧ q_WP q_Pr d 41 [.inr (.inr (q_top M))] M3 (fun v4 M5 => q_lay M5 ∧ (∀ M6 : qM, M6 = q_wn M5 1 1 (0 : Int) → q_lay M6 → ((q_kd M6 (q_top M) = 4) ∧ (∀ M7 : qM, M7 = q_wn M6 0 7 (q_nm M6 (q_top M) 1) → q_lay M7 → ((q_kd M7 (q_top M) = 4) ∧ (∀ M8 : qM, M8 = q_wn M7 0 8 (q_nm M7 (q_top M) 2) → q_lay M8 → (((q_nm M8 0 7) = 0 → ((q_kd M8 (q_top M) = 4) ∧ ((18 = q_ak (q_kd M8 (q_rf M8 (q_top M) 0)) ∧ 0 ≤ x1 ∧ x1 < 5) ∧ (let M9 := q_wr M8 14 x1 (q_rf M8 (q_top M) 0); (q_At q_m138 (q_WP q_Pr d) P 61 [(0, .inr (.inr 0)), (1, .inl x1), (2, .inr (.inr (q_top M))), (3, .inl (0 : Int))] [] M9 ((c + 1) + 9) ((s + q_ns 4) + 6393)))))) ∧ (¬ (q_nm M8 0 7) = 0 → (P (-1 : Int) M8))))))))))))))))) : q_At q_m138 (q_WP q_Pr d) P 0 [(0, .inr (.inr 0)), (1, .inl x1)] [] M c s := by
  refine s_138_0 ?_
  intro M1
  replace h : _ := h
  refine ⟨h.1, ?_⟩
  replace h := h.2
  refine ⟨h.1, ?_⟩
  replace h := h.2
  refine ⟨h.1, ?_⟩
  replace h := h.2
  refine ⟨h.1, ?_⟩
  replace h := h.2
  refine q_WP_mono _ _ _ _ _ _ (fun v2 M3 hh => ?_) h
  obtain ⟨hlM3, h⟩ := hh
  refine ⟨h.1, ?_⟩
  replace h := h.2
  refine q_WP_mono _ _ _ _ _ _ (fun v4 M5 hh => ?_) h
  obtain ⟨hlM5, h⟩ := hh
  rw [lk0 hlM5, lr0_0 hlM5, lk1 hlM5]
  refine ⟨rfl, ?_⟩
  refine ⟨rfl, ?_⟩
  intro M6
  have hlM6 : q_lay M6 := q_lay_wn hlM5
  replace h := h M6 rfl hlM6
  rw [lk0 hlM6]
  refine ⟨h.1, ?_⟩
  replace h := h.2
  refine ⟨rfl, ?_⟩
  intro M7
  have hlM7 : q_lay M7 := q_lay_wn hlM6
  replace h := h M7 rfl hlM7
  rw [lk0 hlM7]
  refine ⟨h.1, ?_⟩
  replace h := h.2
  refine ⟨rfl, ?_⟩
  intro M8
  have hlM8 : q_lay M8 := q_lay_wn hlM7
  replace h := h M8 rfl hlM8
  rw [lk0 hlM8, lr0_4 hlM8, ll14 hlM8, lk14 hlM8]
  refine ⟨rfl, ?_⟩
  refine ⟨?_, ?_⟩
  · replace h := h.1
    intro g
    replace h := h g
    refine ⟨rfl, ?_⟩
    refine ⟨h.1, ?_⟩
    replace h := h.2
    refine ⟨h.1, ?_⟩
    replace h := h.2
    intro M9
    replace h : _ := h
    exact h
  · replace h := h.2
    intro g
    replace h := h g
    exact h
theorem t_138_61 {d : Nat} {P : Int → qM → Prop} {x1 x2 x3 : Int} {M : qM} {c s : Nat} (hl : q_lay M) (h : (((q_nm M 0 3) ≤ x3 → ((q_kd M x2 = 4) ∧ ((q_kd M (q_rf M x2 0) = 5) ∧ (P (q_nm M (q_rf M x2 0) 6) M)))) ∧ (x3 < (q_nm M 0 3) → ((0 ≤ x3 ∧ x3 < 12) ∧ (((q_rf M 13 x3) = -1 → (q_At q_m138 (q_WP q_Pr d) P 61 [(0, .inr (.inr 0)), (1, .inl x1), (2, .inr (.inr x2)), (3, .inl (w32 (x3 + 1)))] [] M c s)) ∧ (¬ (q_rf M 13 x3) = -1 → ((0 ≤ x3 ∧ x3 < 12) ∧ ((q_kd M (q_rf M 13 x3) = 1) ∧ (((q_kd M (q_rf M (q_rf M 13 x3) 12) = 12 ∨ q_kd M (q_rf M (q_rf M 13 x3) 12) = 16) ∧ 0 ≤ x1 ∧ x1 < q_ln M (q_rf M (q_rf M 13 x3) 12)) ∧ (∀ M1 : qM, M1 = q_wn M (q_rf M (q_rf M 13 x3) 12) x1 (q_bs (q_kd M (q_rf M (q_rf M 13 x3) 12)) (0 : Int)) → q_lay M1 → (q_At q_m138 (q_WP q_Pr d) P 61 [(0, .inr (.inr 0)), (1, .inl x1), (2, .inr (.inr x2)), (3, .inl (w32 (x3 + 1)))] [] M1 c s))))))))))) : q_At q_m138 (q_WP q_Pr d) P 61 [(0, .inr (.inr 0)), (1, .inl x1), (2, .inr (.inr x2)), (3, .inl x3)] [] M c s := by
  refine s_138_61 ?_
  rw [lk0 hl, lr0_2 hl, ll13 hl, lk13 hl]
  refine ⟨rfl, ?_⟩
  refine ⟨?_, ?_⟩
  · replace h := h.1
    intro g
    replace h := h g
    refine ⟨h.1, ?_⟩
    replace h := h.2
    refine ⟨h.1, ?_⟩
    replace h := h.2
    exact h
  · replace h := h.2
    intro g
    replace h := h g
    refine ⟨rfl, ?_⟩
    refine ⟨⟨⟨by decide, by decide⟩, h.1⟩, ?_⟩
    replace h := h.2
    refine ⟨?_, ?_⟩
    · replace h := h.1
      intro g
      replace h := h g
      exact h
    · replace h := h.2
      intro g
      replace h := h g
      refine ⟨rfl, ?_⟩
      refine ⟨⟨⟨by decide, by decide⟩, h.1⟩, ?_⟩
      replace h := h.2
      refine ⟨h.1, ?_⟩
      replace h := h.2
      refine ⟨h.1, ?_⟩
      replace h := h.2
      intro M1
      have hlM1 : q_lay M1 := q_lay_wn hl
      replace h := h M1 rfl hlM1
      exact h
theorem t_139_0 {d : Nat} {P : Int → qM → Prop} {x1 : Int} {M : qM} {c s : Nat} (hl : q_lay M) (h : ((0 ≤ x1 ∧ x1 < q_nm M 0 3 → ((0 ≤ x1 ∧ x1 < 12) ∧ (((q_rf M 13 x1) = -1 → (P (q_rf M 13 x1) M)) ∧ (¬ (q_rf M 13 x1) = -1 → ((q_kd M (q_rf M 13 x1) = 1) ∧ (((q_nm M (q_rf M 13 x1) 2) = (q_nm M 3 9) → (P (q_rf M 13 x1) M)) ∧ (¬ (q_nm M (q_rf M 13 x1) 2) = (q_nm M 3 9) → ((q_kd M (q_rf M 13 x1) = 1) ∧ (∀ M3 : qM, M3 = q_wn M (q_rf M 13 x1) 2 (q_nm M 3 9) → q_lay M3 → ((q_kd M3 (q_rf M 13 x1) = 1) ∧ q_WP q_Pr (d + 1) 7 [.inr (.inr (q_rf M 13 x1))] M3 (fun v4 M5 => q_lay M5 ∧ ((q_kd M5 (q_rf M 13 x1) = 1) ∧ q_WP q_Pr (d + 1) 8 [.inr (.inr (q_rf M 13 x1))] M5 (fun v6 M7 => q_lay M7 ∧ ((q_kd M7 (q_rf M 13 x1) = 1) ∧ q_WP q_Pr (d + 1) 13 [.inr (.inr (q_rf M 13 x1))] M7 (fun v8 M9 => q_lay M9 ∧ ((q_kd M9 (q_rf M 13 x1) = 1) ∧ q_WP q_Pr (d + 1) 16 [.inr (.inr (q_rf M 13 x1)), .inr (.inr 18)] M9 (fun v10 M11 => q_lay M11 ∧ (P (q_rf M 13 x1) M11)))))))))))))))))) ∧ (¬ (0 ≤ x1 ∧ x1 < q_nm M 0 3) → (P (-1 : Int) M)))) : q_At q_m139 (q_WP q_Pr (d + 1)) P 0 [(0, .inr (.inr 0)), (1, .inl x1)] [] M c s := by
  refine s_139_0 ?_
  rw [lk0 hl]
  refine ⟨rfl, ?_⟩
  refine p_135 hl (fun g => ?_) (fun g => ?_)
  · replace h := h.1 g
    rw [lk0 hl, lr0_2 hl, ll13 hl, lk13 hl, lr0_1 hl, lk3 hl]
    refine ⟨fun _ => ?_, fun g => absurd g (by decide)⟩
    refine ⟨rfl, ?_⟩
    refine ⟨⟨⟨by decide, by decide⟩, h.1⟩, ?_⟩
    replace h := h.2
    refine ⟨?_, ?_⟩
    · replace h := h.1
      intro g
      replace h := h g
      exact h
    · replace h := h.2
      intro g
      replace h := h g
      refine ⟨h.1, ?_⟩
      replace h := h.2
      refine ⟨rfl, ?_⟩
      refine ⟨rfl, ?_⟩
      refine ⟨?_, ?_⟩
      · replace h := h.1
        intro g
        replace h := h g
        exact h
      · replace h := h.2
        intro g
        replace h := h g
        refine ⟨rfl, ?_⟩
        refine ⟨rfl, ?_⟩
        refine ⟨h.1, ?_⟩
        replace h := h.2
        intro M3
        have hlM3 : q_lay M3 := q_lay_wn hl
        replace h := h M3 rfl hlM3
        refine ⟨h.1, ?_⟩
        replace h := h.2
        refine q_WP_mono _ _ _ _ _ _ (fun v4 M5 hh => ?_) h
        obtain ⟨hlM5, h⟩ := hh
        refine ⟨h.1, ?_⟩
        replace h := h.2
        refine q_WP_mono _ _ _ _ _ _ (fun v6 M7 hh => ?_) h
        obtain ⟨hlM7, h⟩ := hh
        refine ⟨h.1, ?_⟩
        replace h := h.2
        refine q_WP_mono _ _ _ _ _ _ (fun v8 M9 hh => ?_) h
        obtain ⟨hlM9, h⟩ := hh
        rw [lk0 hlM9, lr0_6 hlM9]
        refine ⟨rfl, ?_⟩
        refine ⟨h.1, ?_⟩
        replace h := h.2
        refine q_WP_mono _ _ _ _ _ _ (fun v10 M11 hh => ?_) h
        obtain ⟨hlM11, h⟩ := hh
        exact h
  · replace h := h.2 g
    rw [lk0 hl, lr0_2 hl, ll13 hl, lk13 hl, lr0_1 hl, lk3 hl]
    refine ⟨fun g => absurd g (by decide), fun _ => ?_⟩
    exact h
theorem t_140_0 {d : Nat} {P : Int → qM → Prop} {x1 x2 : Int} {M : qM} {c s : Nat} (hl : q_lay M) (h : (((0 ≤ x2 ∧ x2 < 4) ∧ ¬ q_rf M 14 x2 = -1 → q_WP q_Pr (d + 1) 139 [.inr (.inr 0), .inl x1] M (fun v3 M4 => q_lay M4 ∧ ((v3 = -1 → (P v3 M4)) ∧ (¬ v3 = -1 → q_WP q_Pr (d + 1) 142 [.inr (.inr 0), .inr (.inr v3), .inl x2] M4 (fun v5 M6 => q_lay M6 ∧ (P v3 M6)))))) ∧ (¬ ((0 ≤ x2 ∧ x2 < 4) ∧ ¬ q_rf M 14 x2 = -1) → (P (-1 : Int) M)))) : q_At q_m140 (q_WP q_Pr (d + 1)) P 0 [(0, .inr (.inr 0)), (1, .inl x1), (2, .inl x2)] [] M c s := by
  refine s_140_0 ?_
  rw [lk0 hl]
  refine ⟨rfl, ?_⟩
  refine p_136 hl (fun g => ?_) (fun g => ?_)
  · replace h := h.1 g
    rw [lk0 hl]
    refine ⟨fun _ => ?_, fun g => absurd g (by decide)⟩
    refine ⟨rfl, ?_⟩
    refine q_WP_mono _ _ _ _ _ _ (fun v3 M4 hh => ?_) h
    obtain ⟨hlM4, h⟩ := hh
    rw [lk0 hlM4]
    refine ⟨?_, ?_⟩
    · replace h := h.1
      intro g
      replace h := h g
      exact h
    · replace h := h.2
      intro g
      replace h := h g
      refine ⟨rfl, ?_⟩
      refine q_WP_mono _ _ _ _ _ _ (fun v5 M6 hh => ?_) h
      obtain ⟨hlM6, h⟩ := hh
      exact h
  · replace h := h.2 g
    rw [lk0 hl]
    refine ⟨fun g => absurd g (by decide), fun _ => ?_⟩
    exact h
theorem t_141_0 {d : Nat} {P : Int → qM → Prop} {x1 : Int} {M : qM} {c s : Nat} (hl : q_lay M) (h : q_WP q_Pr d 139 [.inr (.inr 0), .inl x1] M (fun v1 M2 => q_lay M2 ∧ (q_At q_m141 (q_WP q_Pr d) P 8 [(0, .inr (.inr 0)), (2, .inr (.inr v1)), (3, .inl (0 : Int))] [] M2 c s))) : q_At q_m141 (q_WP q_Pr d) P 0 [(0, .inr (.inr 0)), (1, .inl x1)] [] M c s := by
  refine s_141_0 ?_
  rw [lk0 hl]
  refine ⟨rfl, ?_⟩
  refine q_WP_mono _ _ _ _ _ _ (fun v1 M2 hh => ?_) h
  obtain ⟨hlM2, h⟩ := hh
  exact h
theorem t_141_8 {d : Nat} {P : Int → qM → Prop} {x2 x3 : Int} {M : qM} {c s : Nat} (hl : q_lay M) (h : (((4 : Int) ≤ x3 → (P x2 M)) ∧ (x3 < (4 : Int) → ((x2 = -1 → (q_At q_m141 (q_WP q_Pr (d + 1)) P 8 [(0, .inr (.inr 0)), (2, .inr (.inr x2)), (3, .inl (w32 (x3 + 1)))] [] M c s)) ∧ (¬ x2 = -1 → (((0 ≤ x3 ∧ x3 < 4) ∧ ¬ q_rf M 14 x3 = -1 → q_WP q_Pr (d + 1) 142 [.inr (.inr 0), .inr (.inr x2), .inl x3] M (fun v3 M4 => q_lay M4 ∧ (q_At q_m141 (q_WP q_Pr (d + 1)) P 8 [(0, .inr (.inr 0)), (2, .inr (.inr x2)), (3, .inl (w32 (x3 + 1)))] [] M4 c s))) ∧ (¬ ((0 ≤ x3 ∧ x3 < 4) ∧ ¬ q_rf M 14 x3 = -1) → (q_At q_m141 (q_WP q_Pr (d + 1)) P 8 [(0, .inr (.inr 0)), (2, .inr (.inr x2)), (3, .inl (w32 (x3 + 1)))] [] M c s)))))))) : q_At q_m141 (q_WP q_Pr (d + 1)) P 8 [(0, .inr (.inr 0)), (2, .inr (.inr x2)), (3, .inl x3)] [] M c s := by
  refine s_141_8 ?_
  rw [lk0 hl]
  refine ⟨?_, ?_⟩
  · replace h := h.1
    intro g
    replace h := h g
    exact h
  · replace h := h.2
    intro g
    replace h := h g
    refine ⟨?_, ?_⟩
    · replace h := h.1
      intro g
      replace h := h g
      exact h
    · replace h := h.2
      intro g
      replace h := h g
      refine ⟨rfl, ?_⟩
      refine p_136 hl (fun g => ?_) (fun g => ?_)
      · replace h := h.1 g
        rw [lk0 hl]
        refine ⟨fun g => absurd g (by decide), fun _ => ?_⟩
        refine ⟨rfl, ?_⟩
        refine q_WP_mono _ _ _ _ _ _ (fun v3 M4 hh => ?_) h
        obtain ⟨hlM4, h⟩ := hh
        exact h
      · replace h := h.2 g
        rw [lk0 hl]
        refine ⟨fun _ => ?_, fun g => absurd g (by decide)⟩
        exact h
theorem t_142_0 {d : Nat} {P : Int → qM → Prop} {x1 x2 : Int} {M : qM} {c s : Nat} (hl : q_lay M) (h : ((q_kd M x1 = 1) ∧ (((q_kd M (q_rf M x1 12) = 12 ∨ q_kd M (q_rf M x1 12) = 16) ∧ 0 ≤ x2 ∧ x2 < q_ln M (q_rf M x1 12)) ∧ ((¬ (q_nm M (q_rf M x1 12) x2) = 0 → (P (0 : Int) M)) ∧ ((q_nm M (q_rf M x1 12) x2) = 0 → ((q_kd M x1 = 1) ∧ (((q_kd M (q_rf M x1 12) = 12 ∨ q_kd M (q_rf M x1 12) = 16) ∧ 0 ≤ x2 ∧ x2 < q_ln M (q_rf M x1 12)) ∧ (∀ M1 : qM, M1 = q_wn M (q_rf M x1 12) x2 (q_bs (q_kd M (q_rf M x1 12)) (1 : Int)) → q_lay M1 → ((0 ≤ x2 ∧ x2 < 5) ∧ ((q_kd M1 x1 = 1) ∧ q_WP q_Pr d 22 [.inr (.inr x1), .inl x2, .inr (.inr (q_rf M1 14 x2)), .inr (.inr 15)] M1 (fun v2 M3 => q_lay M3 ∧ ((q_kd M3 x1 = 1) ∧ q_WP q_Pr d 23 [.inr (.inr x1), .inl x2] M3 (fun v4 M5 => q_lay M5 ∧ (P (0 : Int) M5)))))))))))))) : q_At q_m142 (q_WP q_Pr d) P 0 [(0, .inr (.inr 0)), (1, .inr (.inr x1)), (2, .inl x2)] [] M c s := by
  refine s_142_0 ?_
  refine ⟨h.1, ?_⟩
  replace h := h.2
  refine ⟨h.1, ?_⟩
  replace h := h.2
  refine ⟨?_, ?_⟩
  · replace h := h.1
    intro g
    replace h := h g
    exact h
  · replace h := h.2
    intro g
    replace h := h g
    refine ⟨h.1, ?_⟩
    replace h := h.2
    refine ⟨h.1, ?_⟩
    replace h := h.2
    intro M1
    have hlM1 : q_lay M1 := q_lay_wn hl
    replace h := h M1 rfl hlM1
    rw [lk0 hlM1, lr0_4 hlM1, ll14 hlM1, lk14 hlM1, lr0_5 hlM1]
    refine ⟨rfl, ?_⟩
    refine ⟨⟨⟨by decide, by decide⟩, h.1⟩, ?_⟩
    replace h := h.2
    refine ⟨rfl, ?_⟩
    refine ⟨h.1, ?_⟩
    replace h := h.2
    refine q_WP_mono _ _ _ _ _ _ (fun v2 M3 hh => ?_) h
    obtain ⟨hlM3, h⟩ := hh
    refine ⟨h.1, ?_⟩
    replace h := h.2
    refine q_WP_mono _ _ _ _ _ _ (fun v4 M5 hh => ?_) h
    obtain ⟨hlM5, h⟩ := hh
    exact h
theorem t_143_0 {d : Nat} {P : Int → qM → Prop} {x1 : Int} {M : qM} {c s : Nat} (hl : q_lay M) (h : (q_At q_m143 (q_WP q_Pr d) P 4 [(0, .inr (.inr 0)), (1, .inr (.inr x1)), (2, .inl (0 : Int)), (3, .inl (0 : Int))] [] M c s)) : q_At q_m143 (q_WP q_Pr d) P 0 [(0, .inr (.inr 0)), (1, .inr (.inr x1))] [] M c s := by
  refine s_143_0 ?_
  exact h
theorem t_143_4 {d : Nat} {P : Int → qM → Prop} {x1 x2 x3 : Int} {M : qM} {c s : Nat} (hl : q_lay M) (h : (((4 : Int) ≤ x3 → (P x2 M)) ∧ (x3 < (4 : Int) → (q_At q_m143 (q_WP q_Pr d) P 14 [(0, .inr (.inr 0)), (1, .inr (.inr x1)), (2, .inl x2), (3, .inl x3), (4, .inl (w32 (x3 + (1 : Int))))] [] M c s)))) : q_At q_m143 (q_WP q_Pr d) P 4 [(0, .inr (.inr 0)), (1, .inr (.inr x1)), (2, .inl x2), (3, .inl x3)] [] M c s := by
  refine s_143_4 ?_
  refine ⟨?_, ?_⟩
  · replace h := h.1
    intro g
    replace h := h g
    exact h
  · replace h := h.2
    intro g
    replace h := h g
    exact h
theorem t_143_14 {d : Nat} {P : Int → qM → Prop} {x1 x2 x3 x4 : Int} {M : qM} {c s : Nat} (hl : q_lay M) (h : (((4 : Int) ≤ x4 → (q_At q_m143 (q_WP q_Pr (d + 1)) P 4 [(0, .inr (.inr 0)), (1, .inr (.inr x1)), (2, .inl x2), (3, .inl (w32 (x3 + 1)))] [] M c s)) ∧ (x4 < (4 : Int) → (((0 ≤ x3 ∧ x3 < 4) ∧ ¬ q_rf M 14 x3 = -1 → (((0 ≤ x4 ∧ x4 < 4) ∧ ¬ q_rf M 14 x4 = -1 → ((q_kd M x1 = 1) ∧ q_WP q_Pr (d + 1) 32 [.inr (.inr x1), .inl x3, .inl x4] M (fun v5 M6 => q_lay M6 ∧ (q_At q_m143 (q_WP q_Pr (d + 1)) P 14 [(0, .inr (.inr 0)), (1, .inr (.inr x1)), (2, .inl (w32 (x2 + v5))), (3, .inl x3), (4, .inl (w32 (x4 + 1)))] [] M6 c s)))) ∧ (¬ ((0 ≤ x4 ∧ x4 < 4) ∧ ¬ q_rf M 14 x4 = -1) → (q_At q_m143 (q_WP q_Pr (d + 1)) P 14 [(0, .inr (.inr 0)), (1, .inr (.inr x1)), (2, .inl x2), (3, .inl x3), (4, .inl (w32 (x4 + 1)))] [] M c s)))) ∧ (¬ ((0 ≤ x3 ∧ x3 < 4) ∧ ¬ q_rf M 14 x3 = -1) → (q_At q_m143 (q_WP q_Pr (d + 1)) P 14 [(0, .inr (.inr 0)), (1, .inr (.inr x1)), (2, .inl x2), (3, .inl x3), (4, .inl (w32 (x4 + 1)))] [] M c s)))))) : q_At q_m143 (q_WP q_Pr (d + 1)) P 14 [(0, .inr (.inr 0)), (1, .inr (.inr x1)), (2, .inl x2), (3, .inl x3), (4, .inl x4)] [] M c s := by
  refine s_143_14 ?_
  rw [lk0 hl]
  refine ⟨?_, ?_⟩
  · replace h := h.1
    intro g
    replace h := h g
    exact h
  · replace h := h.2
    intro g
    replace h := h g
    refine ⟨rfl, ?_⟩
    refine p_136 hl (fun g => ?_) (fun g => ?_)
    · replace h := h.1 g
      rw [lk0 hl]
      refine ⟨fun g => absurd g (by decide), fun _ => ?_⟩
      refine ⟨rfl, ?_⟩
      refine p_136 hl (fun g => ?_) (fun g => ?_)
      · replace h := h.1 g
        refine ⟨fun g => absurd g (by decide), fun _ => ?_⟩
        refine ⟨h.1, ?_⟩
        replace h := h.2
        refine q_WP_mono _ _ _ _ _ _ (fun v5 M6 hh => ?_) h
        obtain ⟨hlM6, h⟩ := hh
        exact h
      · replace h := h.2 g
        refine ⟨fun _ => ?_, fun g => absurd g (by decide)⟩
        exact h
    · replace h := h.2 g
      rw [lk0 hl]
      refine ⟨fun _ => ?_, fun g => absurd g (by decide)⟩
      exact h
theorem t_144_0 {d : Nat} {P : Int → qM → Prop} {x0 x1 x2 : Int} {M : qM} {c s : Nat} (hl : q_lay M) (h : ((0 < x1 → (q_At q_m144 (q_WP q_Pr d) P 14 [(0, .inl x0), (1, .inl x1), (2, .inl x2), (3, .inl x1), (4, .inl x0), (5, .inl (0 : Int))] [] M c s)) ∧ (x1 ≤ 0 → (P (-1 : Int) M)))) : q_At q_m144 (q_WP q_Pr d) P 0 [(0, .inl x0), (1, .inl x1), (2, .inl x2)] [] M c s := by
  refine s_144_0 ?_
  refine ⟨?_, ?_⟩
  · replace h := h.1
    intro g
    replace h := h g
    exact h
  · replace h := h.2
    intro g
    replace h := h g
    exact h
theorem t_144_14 {d : Nat} {P : Int → qM → Prop} {x0 x1 x2 x3 x4 x5 : Int} {M : qM} {c s : Nat} (hl : q_lay M) (h : (((64 : Int) ≤ x5 → ((x2 = 0 → ((¬ x3 = 0 → ((x3 ≠ 0) ∧ (P (w32 (Int.tdiv x1 x3)) M))) ∧ (x3 = 0 → (P (w32 (Int.tdiv x1 (1 : Int))) M)))) ∧ (¬ x2 = 0 → ((¬ x3 = 0 → ((x3 ≠ 0) ∧ (P (w32 (Int.tdiv x0 x3)) M))) ∧ (x3 = 0 → (P (w32 (Int.tdiv x0 (1 : Int))) M)))))) ∧ (x5 < (64 : Int) → ((x4 = 0 → ((x2 = 0 → ((¬ x3 = 0 → ((x3 ≠ 0) ∧ (P (w32 (Int.tdiv x1 x3)) M))) ∧ (x3 = 0 → (P (w32 (Int.tdiv x1 (1 : Int))) M)))) ∧ (¬ x2 = 0 → ((¬ x3 = 0 → ((x3 ≠ 0) ∧ (P (w32 (Int.tdiv x0 x3)) M))) ∧ (x3 = 0 → (P (w32 (Int.tdiv x0 (1 : Int))) M)))))) ∧ (¬ x4 = 0 → ((x4 ≠ 0) ∧ (q_At q_m144 (q_WP q_Pr d) P 14 [(0, .inl x0), (1, .inl x1), (2, .inl x2), (3, .inl x4), (4, .inl (Int.tmod x3 x4)), (5, .inl (w32 (x5 + 1)))] [] M c s))))))) : q_At q_m144 (q_WP q_Pr d) P 14 [(0, .inl x0), (1, .inl x1), (2, .inl x2), (3, .inl x3), (4, .inl x4), (5, .inl x5)] [] M c s := by
  refine s_144_14 ?_
  refine ⟨?_, ?_⟩
  · replace h := h.1
    intro g
    replace h := h g
    refine ⟨?_, ?_⟩
    · replace h := h.1
      intro g
      replace h := h g
      refine ⟨?_, ?_⟩
      · replace h := h.1
        intro g
        replace h := h g
        refine ⟨h.1, ?_⟩
        replace h := h.2
        exact h
      · replace h := h.2
        intro g
        replace h := h g
        refine ⟨by decide, ?_⟩
        exact h
    · replace h := h.2
      intro g
      replace h := h g
      refine ⟨?_, ?_⟩
      · replace h := h.1
        intro g
        replace h := h g
        refine ⟨h.1, ?_⟩
        replace h := h.2
        exact h
      · replace h := h.2
        intro g
        replace h := h g
        refine ⟨by decide, ?_⟩
        exact h
  · replace h := h.2
    intro g
    replace h := h g
    refine ⟨?_, ?_⟩
    · replace h := h.1
      intro g
      replace h := h g
      refine ⟨?_, ?_⟩
      · replace h := h.1
        intro g
        replace h := h g
        refine ⟨?_, ?_⟩
        · replace h := h.1
          intro g
          replace h := h g
          refine ⟨h.1, ?_⟩
          replace h := h.2
          exact h
        · replace h := h.2
          intro g
          replace h := h g
          refine ⟨by decide, ?_⟩
          exact h
      · replace h := h.2
        intro g
        replace h := h g
        refine ⟨?_, ?_⟩
        · replace h := h.1
          intro g
          replace h := h g
          refine ⟨h.1, ?_⟩
          replace h := h.2
          exact h
        · replace h := h.2
          intro g
          replace h := h g
          refine ⟨by decide, ?_⟩
          exact h
    · replace h := h.2
      intro g
      replace h := h g
      refine ⟨h.1, ?_⟩
      replace h := h.2
      exact h
end
