section
theorem t_147_0 {d : Nat} {P : Int → qM → Prop} {x1 x2 x3 x4 x5 : Int} {M : qM} {c s : Nat} (hl : q_lay M) (h : (((w32 ((q_nm M 66 1) + (20 : Int))) ≤ (2100 : Int) → (q_At q_m147 (q_WP q_Pr d) P 18 [(0, .inr (.inr 66)), (1, .inl x1), (2, .inl x2), (3, .inl x3), (4, .inl x4), (5, .inl x5), (6, .inl (0 : Int))] [] M c s)) ∧ ((2100 : Int) < (w32 ((q_nm M 66 1) + (20 : Int))) → (P (-1 : Int) M)))) : q_At q_m147 (q_WP q_Pr d) P 0 [(0, .inr (.inr 66)), (1, .inl x1), (2, .inl x2), (3, .inl x3), (4, .inl x4), (5, .inl x5)] [] M c s := by
  refine s_147_0 ?_
  rw [lk66 hl]
  refine ⟨rfl, ?_⟩
  refine ⟨?_, ?_⟩
  · replace h := h.1
    intro g
    replace h := h g
    exact h
  · replace h := h.2
    intro g
    replace h := h g
    exact h
theorem t_147_18 {d : Nat} {P : Int → qM → Prop} {x1 x2 x3 x4 x5 x6 : Int} {M : qM} {c s : Nat} (hl : q_lay M) (h : (((20 : Int) ≤ x6 → (P (q_nm M 66 1) M)) ∧ (x6 < (20 : Int) → (((4 : Int) ≤ x6 → (((8 : Int) ≤ x6 → (((12 : Int) ≤ x6 → (((16 : Int) ≤ x6 → ((0 ≤ (q_nm M 66 1) ∧ (q_nm M 66 1) < 2100) ∧ (∀ M1 : qM, M1 = q_wn M 67 (q_nm M 66 1) (q_and (q_shr x5 (w32 ((8 : Int) * (w32 ((3 : Int) - (Int.tmod x6 (4 : Int))))))) (255 : Int)) → q_lay M1 → (∀ M2 : qM, M2 = q_wn M1 66 1 (w32 ((q_nm M1 66 1) + (1 : Int))) → q_lay M2 → (q_At q_m147 (q_WP q_Pr d) P 18 [(0, .inr (.inr 66)), (1, .inl x1), (2, .inl x2), (3, .inl x3), (4, .inl x4), (5, .inl x5), (6, .inl (w32 (x6 + 1)))] [] M2 c s))))) ∧ (x6 < (16 : Int) → ((0 ≤ (q_nm M 66 1) ∧ (q_nm M 66 1) < 2100) ∧ (∀ M3 : qM, M3 = q_wn M 67 (q_nm M 66 1) (q_and (q_shr x4 (w32 ((8 : Int) * (w32 ((3 : Int) - (Int.tmod x6 (4 : Int))))))) (255 : Int)) → q_lay M3 → (∀ M4 : qM, M4 = q_wn M3 66 1 (w32 ((q_nm M3 66 1) + (1 : Int))) → q_lay M4 → (q_At q_m147 (q_WP q_Pr d) P 18 [(0, .inr (.inr 66)), (1, .inl x1), (2, .inl x2), (3, .inl x3), (4, .inl x4), (5, .inl x5), (6, .inl (w32 (x6 + 1)))] [] M4 c s))))))) ∧ (x6 < (12 : Int) → ((0 ≤ (q_nm M 66 1) ∧ (q_nm M 66 1) < 2100) ∧ (∀ M5 : qM, M5 = q_wn M 67 (q_nm M 66 1) (q_and (q_shr x3 (w32 ((8 : Int) * (w32 ((3 : Int) - (Int.tmod x6 (4 : Int))))))) (255 : Int)) → q_lay M5 → (∀ M6 : qM, M6 = q_wn M5 66 1 (w32 ((q_nm M5 66 1) + (1 : Int))) → q_lay M6 → (q_At q_m147 (q_WP q_Pr d) P 18 [(0, .inr (.inr 66)), (1, .inl x1), (2, .inl x2), (3, .inl x3), (4, .inl x4), (5, .inl x5), (6, .inl (w32 (x6 + 1)))] [] M6 c s))))))) ∧ (x6 < (8 : Int) → ((0 ≤ (q_nm M 66 1) ∧ (q_nm M 66 1) < 2100) ∧ (∀ M7 : qM, M7 = q_wn M 67 (q_nm M 66 1) (q_and (q_shr x2 (w32 ((8 : Int) * (w32 ((3 : Int) - (Int.tmod x6 (4 : Int))))))) (255 : Int)) → q_lay M7 → (∀ M8 : qM, M8 = q_wn M7 66 1 (w32 ((q_nm M7 66 1) + (1 : Int))) → q_lay M8 → (q_At q_m147 (q_WP q_Pr d) P 18 [(0, .inr (.inr 66)), (1, .inl x1), (2, .inl x2), (3, .inl x3), (4, .inl x4), (5, .inl x5), (6, .inl (w32 (x6 + 1)))] [] M8 c s))))))) ∧ (x6 < (4 : Int) → ((0 ≤ (q_nm M 66 1) ∧ (q_nm M 66 1) < 2100) ∧ (∀ M9 : qM, M9 = q_wn M 67 (q_nm M 66 1) (q_and (q_shr x1 (w32 ((8 : Int) * (w32 ((3 : Int) - (Int.tmod x6 (4 : Int))))))) (255 : Int)) → q_lay M9 → (∀ M10 : qM, M10 = q_wn M9 66 1 (w32 ((q_nm M9 66 1) + (1 : Int))) → q_lay M10 → (q_At q_m147 (q_WP q_Pr d) P 18 [(0, .inr (.inr 66)), (1, .inl x1), (2, .inl x2), (3, .inl x3), (4, .inl x4), (5, .inl x5), (6, .inl (w32 (x6 + 1)))] [] M10 c s))))))))) : q_At q_m147 (q_WP q_Pr d) P 18 [(0, .inr (.inr 66)), (1, .inl x1), (2, .inl x2), (3, .inl x3), (4, .inl x4), (5, .inl x5), (6, .inl x6)] [] M c s := by
  refine s_147_18 ?_
  rw [lk66 hl, lr66_0 hl, ll67 hl, lk67 hl]
  refine ⟨?_, ?_⟩
  · replace h := h.1
    intro g
    replace h := h g
    refine ⟨rfl, ?_⟩
    exact h
  · replace h := h.2
    intro g
    replace h := h g
    refine ⟨?_, ?_⟩
    · replace h := h.1
      intro g
      replace h := h g
      refine ⟨?_, ?_⟩
      · replace h := h.1
        intro g
        replace h := h g
        refine ⟨?_, ?_⟩
        · replace h := h.1
          intro g
          replace h := h g
          refine ⟨?_, ?_⟩
          · replace h := h.1
            intro g
            replace h := h g
            refine ⟨rfl, ?_⟩
            refine ⟨rfl, ?_⟩
            refine ⟨by decide, ?_⟩
            refine ⟨⟨⟨by decide, rfl⟩, h.1⟩, ?_⟩
            replace h := h.2
            intro M1
            have hlM1 : q_lay M1 := q_lay_wn hl
            replace h := h M1 rfl hlM1
            rw [lk66 hlM1]
            refine ⟨rfl, ?_⟩
            refine ⟨rfl, ?_⟩
            intro M2
            have hlM2 : q_lay M2 := q_lay_wn hlM1
            replace h := h M2 rfl hlM2
            exact h
          · replace h := h.2
            intro g
            replace h := h g
            refine ⟨rfl, ?_⟩
            refine ⟨rfl, ?_⟩
            refine ⟨by decide, ?_⟩
            refine ⟨⟨⟨by decide, rfl⟩, h.1⟩, ?_⟩
            replace h := h.2
            intro M3
            have hlM3 : q_lay M3 := q_lay_wn hl
            replace h := h M3 rfl hlM3
            rw [lk66 hlM3]
            refine ⟨rfl, ?_⟩
            refine ⟨rfl, ?_⟩
            intro M4
            have hlM4 : q_lay M4 := q_lay_wn hlM3
            replace h := h M4 rfl hlM4
            exact h
        · replace h := h.2
          intro g
          replace h := h g
          refine ⟨rfl, ?_⟩
          refine ⟨rfl, ?_⟩
          refine ⟨by decide, ?_⟩
          refine ⟨⟨⟨by decide, rfl⟩, h.1⟩, ?_⟩
          replace h := h.2
          intro M5
          have hlM5 : q_lay M5 := q_lay_wn hl
          replace h := h M5 rfl hlM5
          rw [lk66 hlM5]
          refine ⟨rfl, ?_⟩
          refine ⟨rfl, ?_⟩
          intro M6
          have hlM6 : q_lay M6 := q_lay_wn hlM5
          replace h := h M6 rfl hlM6
          exact h
      · replace h := h.2
        intro g
        replace h := h g
        refine ⟨rfl, ?_⟩
        refine ⟨rfl, ?_⟩
        refine ⟨by decide, ?_⟩
        refine ⟨⟨⟨by decide, rfl⟩, h.1⟩, ?_⟩
        replace h := h.2
        intro M7
        have hlM7 : q_lay M7 := q_lay_wn hl
        replace h := h M7 rfl hlM7
        rw [lk66 hlM7]
        refine ⟨rfl, ?_⟩
        refine ⟨rfl, ?_⟩
        intro M8
        have hlM8 : q_lay M8 := q_lay_wn hlM7
        replace h := h M8 rfl hlM8
        exact h
    · replace h := h.2
      intro g
      replace h := h g
      refine ⟨rfl, ?_⟩
      refine ⟨rfl, ?_⟩
      refine ⟨by decide, ?_⟩
      refine ⟨⟨⟨by decide, rfl⟩, h.1⟩, ?_⟩
      replace h := h.2
      intro M9
      have hlM9 : q_lay M9 := q_lay_wn hl
      replace h := h M9 rfl hlM9
      rw [lk66 hlM9]
      refine ⟨rfl, ?_⟩
      refine ⟨rfl, ?_⟩
      intro M10
      have hlM10 : q_lay M10 := q_lay_wn hlM9
      replace h := h M10 rfl hlM10
      exact h
theorem t_148_0 {d : Nat} {P : Int → qM → Prop} {x1 : Int} {M : qM} {c s : Nat} (hl : q_lay M) (h : ((x1 < 0 → (P (0 : Int) M)) ∧ (0 ≤ x1 → ((x1 ≤ (q_nm M 66 1) → (∀ M1 : qM, M1 = q_wn M 66 1 x1 → q_lay M1 → (P (1 : Int) M1))) ∧ ((q_nm M 66 1) < x1 → (P (0 : Int) M)))))) : q_At q_m148 (q_WP q_Pr d) P 0 [(0, .inr (.inr 66)), (1, .inl x1)] [] M c s := by
  refine s_148_0 ?_
  rw [lk66 hl]
  refine ⟨?_, ?_⟩
  · replace h := h.1
    intro g
    replace h := h g
    refine ⟨⟨by decide, by decide⟩, ?_⟩
    exact h
  · replace h := h.2
    intro g
    replace h := h g
    refine ⟨rfl, ?_⟩
    refine ⟨?_, ?_⟩
    · replace h := h.1
      intro g
      replace h := h g
      refine ⟨rfl, ?_⟩
      intro M1
      have hlM1 : q_lay M1 := q_lay_wn hl
      replace h := h M1 rfl hlM1
      refine ⟨⟨by decide, by decide⟩, ?_⟩
      exact h
    · replace h := h.2
      intro g
      replace h := h g
      refine ⟨⟨by decide, by decide⟩, ?_⟩
      exact h
theorem t_149_0 {d : Nat} {P : Int → qM → Prop} {x1 x2 : Int} {M : qM} {c s : Nat} (hl : q_lay M) (h : (((q_nm M 66 5) = 0 → (∀ M1 : qM, M1 = q_wn M 66 5 x1 → q_lay M1 → (∀ M2 : qM, M2 = q_wn M1 66 6 x2 → q_lay M2 → (P (0 : Int) M2)))) ∧ (¬ (q_nm M 66 5) = 0 → (P (0 : Int) M)))) : q_At q_m149 (q_WP q_Pr d) P 0 [(0, .inr (.inr 66)), (1, .inl x1), (2, .inl x2)] [] M c s := by
  refine s_149_0 ?_
  rw [lk66 hl]
  refine ⟨rfl, ?_⟩
  refine ⟨?_, ?_⟩
  · replace h := h.1
    intro g
    replace h := h g
    refine ⟨rfl, ?_⟩
    intro M1
    have hlM1 : q_lay M1 := q_lay_wn hl
    replace h := h M1 rfl hlM1
    rw [lk66 hlM1]
    refine ⟨rfl, ?_⟩
    intro M2
    have hlM2 : q_lay M2 := q_lay_wn hlM1
    replace h := h M2 rfl hlM2
    exact h
  · replace h := h.2
    intro g
    replace h := h g
    exact h
theorem t_152_0 {d : Nat} {P : Int → qM → Prop} {M : qM} {c s : Nat} (hl : q_lay M) (h : (((q_nm M 66 3) ≤ (q_nm M 66 2) → (((q_nm M 66 3) ≤ (q_nm M 66 2) → (P (-1 : Int) M)) ∧ ((q_nm M 66 2) < (q_nm M 66 3) → ((0 ≤ (q_nm M 66 2) ∧ (q_nm M 66 2) < 2100) ∧ (P (q_nm M 67 (q_nm M 66 2)) M))))) ∧ ((q_nm M 66 2) < (q_nm M 66 3) → ((0 ≤ (q_nm M 66 2) ∧ (q_nm M 66 2) < 2100) ∧ (((q_nm M 67 (q_nm M 66 2)) = (10 : Int) → (∀ M1 : qM, M1 = q_wn M 66 2 (w32 ((q_nm M 66 2) + (1 : Int))) → q_lay M1 → (q_At q_m152 (q_WP q_Pr d) P 0 [(0, .inr (.inr 66))] [] M1 c s))) ∧ (¬ (q_nm M 67 (q_nm M 66 2)) = (10 : Int) → ((0 ≤ (q_nm M 66 2) ∧ (q_nm M 66 2) < 2100) ∧ ((¬ (q_nm M 67 (q_nm M 66 2)) = (32 : Int) → (((q_nm M 66 3) ≤ (q_nm M 66 2) → (P (-1 : Int) M)) ∧ ((q_nm M 66 2) < (q_nm M 66 3) → ((0 ≤ (q_nm M 66 2) ∧ (q_nm M 66 2) < 2100) ∧ (P (q_nm M 67 (q_nm M 66 2)) M))))) ∧ ((q_nm M 67 (q_nm M 66 2)) = (32 : Int) → (∀ M2 : qM, M2 = q_wn M 66 2 (w32 ((q_nm M 66 2) + (1 : Int))) → q_lay M2 → (q_At q_m152 (q_WP q_Pr d) P 0 [(0, .inr (.inr 66))] [] M2 c s))))))))))) : q_At q_m152 (q_WP q_Pr d) P 0 [(0, .inr (.inr 66))] [] M c s := by
  refine s_152_0 ?_
  rw [lk66 hl, lr66_0 hl, ll67 hl, lk67 hl]
  refine ⟨rfl, ?_⟩
  refine ⟨rfl, ?_⟩
  refine ⟨?_, ?_⟩
  · replace h := h.1
    intro g
    replace h := h g
    refine ⟨rfl, ?_⟩
    refine ⟨rfl, ?_⟩
    refine ⟨?_, ?_⟩
    · replace h := h.1
      intro g
      replace h := h g
      exact h
    · replace h := h.2
      intro g
      replace h := h g
      refine ⟨rfl, ?_⟩
      refine ⟨rfl, ?_⟩
      refine ⟨⟨rfl, h.1⟩, ?_⟩
      replace h := h.2
      exact h
  · replace h := h.2
    intro g
    replace h := h g
    refine ⟨rfl, ?_⟩
    refine ⟨rfl, ?_⟩
    refine ⟨⟨rfl, h.1⟩, ?_⟩
    replace h := h.2
    refine ⟨?_, ?_⟩
    · replace h := h.1
      intro g
      replace h := h g
      refine ⟨rfl, ?_⟩
      refine ⟨rfl, ?_⟩
      intro M1
      have hlM1 : q_lay M1 := q_lay_wn hl
      replace h := h M1 rfl hlM1
      exact h
    · replace h := h.2
      intro g
      replace h := h g
      refine ⟨rfl, ?_⟩
      refine ⟨rfl, ?_⟩
      refine ⟨⟨rfl, h.1⟩, ?_⟩
      replace h := h.2
      refine ⟨?_, ?_⟩
      · replace h := h.1
        intro g
        replace h := h g
        refine ⟨rfl, ?_⟩
        refine ⟨rfl, ?_⟩
        refine ⟨?_, ?_⟩
        · replace h := h.1
          intro g
          replace h := h g
          exact h
        · replace h := h.2
          intro g
          replace h := h g
          refine ⟨rfl, ?_⟩
          refine ⟨rfl, ?_⟩
          refine ⟨⟨rfl, h.1⟩, ?_⟩
          replace h := h.2
          exact h
      · replace h := h.2
        intro g
        replace h := h g
        refine ⟨rfl, ?_⟩
        refine ⟨rfl, ?_⟩
        intro M2
        have hlM2 : q_lay M2 := q_lay_wn hl
        replace h := h M2 rfl hlM2
        exact h
theorem t_153_0 {d : Nat} {P : Int → qM → Prop} {x1 : Int} {M : qM} {c s : Nat} (hl : q_lay M) (h : ((¬ (q_nm M 66 5) = 0 → (P (0 : Int) M)) ∧ ((q_nm M 66 5) = 0 → q_WP q_Pr (d + 1) 152 [.inr (.inr 66)] M (fun v1 M2 => q_lay M2 ∧ ((97 ≤ v1 ∧ v1 ≤ 122 → ((¬ (q_nm M2 66 2) = (q_nm M2 66 4) → (q_At q_m153 (q_WP q_Pr (d + 1)) P 35 [(0, .inr (.inr 66)), (1, .inr (.inr x1)), (2, .inl (q_nm M2 66 2))] [] M2 c s)) ∧ ((q_nm M2 66 2) = (q_nm M2 66 4) → (P (0 : Int) M2)))) ∧ (¬ (97 ≤ v1 ∧ v1 ≤ 122) → (P (0 : Int) M2))))))) : q_At q_m153 (q_WP q_Pr (d + 1)) P 0 [(0, .inr (.inr 66)), (1, .inr (.inr x1))] [] M c s := by
  refine s_153_0 ?_
  rw [lk66 hl]
  refine ⟨rfl, ?_⟩
  refine ⟨?_, ?_⟩
  · replace h := h.1
    intro g
    replace h := h g
    refine ⟨⟨by decide, by decide⟩, ?_⟩
    exact h
  · replace h := h.2
    intro g
    replace h := h g
    refine ⟨rfl, ?_⟩
    refine q_WP_mono _ _ _ _ _ _ (fun v1 M2 hh => ?_) h
    obtain ⟨hlM2, h⟩ := hh
    refine p_150 (fun g => ?_) (fun g => ?_)
    · replace h := h.1 g
      rw [lk66 hlM2]
      refine ⟨fun g => absurd g (by decide), fun _ => ?_⟩
      refine ⟨rfl, ?_⟩
      refine ⟨rfl, ?_⟩
      refine ⟨?_, ?_⟩
      · replace h := h.1
        intro g
        replace h := h g
        refine ⟨rfl, ?_⟩
        exact h
      · replace h := h.2
        intro g
        replace h := h g
        refine ⟨⟨by decide, by decide⟩, ?_⟩
        exact h
    · replace h := h.2 g
      rw [lk66 hlM2]
      refine ⟨fun _ => ?_, fun g => absurd g (by decide)⟩
      refine ⟨⟨by decide, by decide⟩, ?_⟩
      exact h
theorem t_153_35 {d : Nat} {P : Int → qM → Prop} {x1 x2 : Int} {M : qM} {c s : Nat} (hl : q_lay M) (h : (((q_nm M 66 3) ≤ x2 → ((12 ≤ q_kd M x1) ∧ (((w32 (x2 - (q_nm M 66 2))) = (q_ln M x1) → (q_At q_m153 (q_WP q_Pr (d + 1)) P 76 [(0, .inr (.inr 66)), (1, .inr (.inr x1)), (3, .inl (0 : Int))] [] M c s)) ∧ (¬ (w32 (x2 - (q_nm M 66 2))) = (q_ln M x1) → (P (0 : Int) M))))) ∧ (x2 < (q_nm M 66 3) → ((0 ≤ x2 ∧ x2 < 2100) ∧ ((97 ≤ (q_nm M 67 x2) ∧ (q_nm M 67 x2) ≤ 122 → (q_At q_m153 (q_WP q_Pr (d + 1)) P 35 [(0, .inr (.inr 66)), (1, .inr (.inr x1)), (2, .inl (w32 (x2 + 1)))] [] M c s)) ∧ (¬ (97 ≤ (q_nm M 67 x2) ∧ (q_nm M 67 x2) ≤ 122) → ((12 ≤ q_kd M x1) ∧ (((w32 (x2 - (q_nm M 66 2))) = (q_ln M x1) → (q_At q_m153 (q_WP q_Pr (d + 1)) P 76 [(0, .inr (.inr 66)), (1, .inr (.inr x1)), (3, .inl (0 : Int))] [] M c s)) ∧ (¬ (w32 (x2 - (q_nm M 66 2))) = (q_ln M x1) → (P (0 : Int) M)))))))))) : q_At q_m153 (q_WP q_Pr (d + 1)) P 35 [(0, .inr (.inr 66)), (1, .inr (.inr x1)), (2, .inl x2)] [] M c s := by
  refine s_153_35 ?_
  rw [lk66 hl, lr66_0 hl, ll67 hl, lk67 hl]
  refine ⟨rfl, ?_⟩
  refine ⟨?_, ?_⟩
  · replace h := h.1
    intro g
    replace h := h g
    refine ⟨rfl, ?_⟩
    refine ⟨h.1, ?_⟩
    replace h := h.2
    refine ⟨?_, ?_⟩
    · replace h := h.1
      intro g
      replace h := h g
      exact h
    · replace h := h.2
      intro g
      replace h := h g
      refine ⟨⟨by decide, by decide⟩, ?_⟩
      exact h
  · replace h := h.2
    intro g
    replace h := h g
    refine ⟨rfl, ?_⟩
    refine ⟨⟨rfl, h.1⟩, ?_⟩
    replace h := h.2
    refine p_150 (fun g => ?_) (fun g => ?_)
    · replace h := h.1 g
      rw [lk66 hl]
      refine ⟨fun g => absurd g (by decide), fun _ => ?_⟩
      exact h
    · replace h := h.2 g
      rw [lk66 hl]
      refine ⟨fun _ => ?_, fun g => absurd g (by decide)⟩
      refine ⟨rfl, ?_⟩
      refine ⟨h.1, ?_⟩
      replace h := h.2
      refine ⟨?_, ?_⟩
      · replace h := h.1
        intro g
        replace h := h g
        exact h
      · replace h := h.2
        intro g
        replace h := h g
        refine ⟨⟨by decide, by decide⟩, ?_⟩
        exact h
theorem t_153_76 {d : Nat} {P : Int → qM → Prop} {x1 x3 : Int} {M : qM} {c s : Nat} (hl : q_lay M) (h : ((12 ≤ q_kd M x1) ∧ (((q_ln M x1) ≤ x3 → (P (1 : Int) M)) ∧ (x3 < (q_ln M x1) → ((0 ≤ (w32 ((q_nm M 66 2) + x3)) ∧ (w32 ((q_nm M 66 2) + x3)) < 2100) ∧ ((q_kd M x1 = 13 ∧ 0 ≤ x3 ∧ x3 < q_ln M x1) ∧ (((q_nm M 67 (w32 ((q_nm M 66 2) + x3))) = (q_nm M x1 x3) → (q_At q_m153 (q_WP q_Pr d) P 76 [(0, .inr (.inr 66)), (1, .inr (.inr x1)), (3, .inl (w32 (x3 + 1)))] [] M c s)) ∧ (¬ (q_nm M 67 (w32 ((q_nm M 66 2) + x3))) = (q_nm M x1 x3) → (P (0 : Int) M))))))))) : q_At q_m153 (q_WP q_Pr d) P 76 [(0, .inr (.inr 66)), (1, .inr (.inr x1)), (3, .inl x3)] [] M c s := by
  refine s_153_76 ?_
  rw [lk66 hl, lr66_0 hl, ll67 hl, lk67 hl]
  refine ⟨h.1, ?_⟩
  replace h := h.2
  refine ⟨?_, ?_⟩
  · replace h := h.1
    intro g
    replace h := h g
    refine ⟨⟨by decide, by decide⟩, ?_⟩
    exact h
  · replace h := h.2
    intro g
    replace h := h g
    refine ⟨rfl, ?_⟩
    refine ⟨rfl, ?_⟩
    refine ⟨⟨rfl, h.1⟩, ?_⟩
    replace h := h.2
    refine ⟨h.1, ?_⟩
    replace h := h.2
    refine ⟨?_, ?_⟩
    · replace h := h.1
      intro g
      replace h := h g
      exact h
    · replace h := h.2
      intro g
      replace h := h g
      refine ⟨⟨by decide, by decide⟩, ?_⟩
      exact h
theorem t_154_0 {d : Nat} {P : Int → qM → Prop} {x1 : Int} {M : qM} {c s : Nat} (hl : q_lay M) (h : q_WP q_Pr d 153 [.inr (.inr 66), .inr (.inr x1)] M (fun v1 M2 => q_lay M2 ∧ ((¬ v1 = 0 → ((12 ≤ q_kd M2 x1) ∧ (∀ M3 : qM, M3 = q_wn M2 66 2 (w32 ((q_nm M2 66 2) + (q_ln M2 x1))) → q_lay M3 → (∀ M4 : qM, M4 = q_wn M3 66 4 (q_nm M3 66 2) → q_lay M4 → (P (1 : Int) M4))))) ∧ (v1 = 0 → (P (0 : Int) M2))))) : q_At q_m154 (q_WP q_Pr d) P 0 [(0, .inr (.inr 66)), (1, .inr (.inr x1))] [] M c s := by
  refine s_154_0 ?_
  rw [lk66 hl]
  refine ⟨rfl, ?_⟩
  refine q_WP_mono _ _ _ _ _ _ (fun v1 M2 hh => ?_) h
  obtain ⟨hlM2, h⟩ := hh
  rw [lk66 hlM2]
  refine ⟨?_, ?_⟩
  · replace h := h.1
    intro g
    replace h := h g
    refine ⟨rfl, ?_⟩
    refine ⟨h.1, ?_⟩
    replace h := h.2
    refine ⟨rfl, ?_⟩
    intro M3
    have hlM3 : q_lay M3 := q_lay_wn hlM2
    replace h := h M3 rfl hlM3
    rw [lk66 hlM3]
    refine ⟨rfl, ?_⟩
    refine ⟨rfl, ?_⟩
    intro M4
    have hlM4 : q_lay M4 := q_lay_wn hlM3
    replace h := h M4 rfl hlM4
    refine ⟨⟨by decide, by decide⟩, ?_⟩
    exact h
  · replace h := h.2
    intro g
    replace h := h g
    refine ⟨⟨by decide, by decide⟩, ?_⟩
    exact h
theorem t_155_0 {d : Nat} {P : Int → qM → Prop} {x1 : Int} {M : qM} {c s : Nat} (hl : q_lay M) (h : ((¬ (q_nm M 66 5) = 0 → (P (0 : Int) M)) ∧ ((q_nm M 66 5) = 0 → q_WP q_Pr d 154 [.inr (.inr 66), .inr (.inr x1)] M (fun v1 M2 => q_lay M2 ∧ ((¬ v1 = 0 → (P (0 : Int) M2)) ∧ (v1 = 0 → q_WP q_Pr d 149 [.inr (.inr 66), .inl (1 : Int), .inl (q_nm M2 66 2)] M2 (fun v3 M4 => q_lay M4 ∧ (P (0 : Int) M4)))))))) : q_At q_m155 (q_WP q_Pr d) P 0 [(0, .inr (.inr 66)), (1, .inr (.inr x1))] [] M c s := by
  refine s_155_0 ?_
  rw [lk66 hl]
  refine ⟨rfl, ?_⟩
  refine ⟨?_, ?_⟩
  · replace h := h.1
    intro g
    replace h := h g
    exact h
  · replace h := h.2
    intro g
    replace h := h g
    refine ⟨rfl, ?_⟩
    refine q_WP_mono _ _ _ _ _ _ (fun v1 M2 hh => ?_) h
    obtain ⟨hlM2, h⟩ := hh
    rw [lk66 hlM2]
    refine ⟨?_, ?_⟩
    · replace h := h.1
      intro g
      replace h := h g
      exact h
    · replace h := h.2
      intro g
      replace h := h g
      refine ⟨rfl, ?_⟩
      refine ⟨rfl, ?_⟩
      refine q_WP_mono _ _ _ _ _ _ (fun v3 M4 hh => ?_) h
      obtain ⟨hlM4, h⟩ := hh
      exact h
theorem t_156_0 {d : Nat} {P : Int → qM → Prop} {x1 : Int} {M : qM} {c s : Nat} (hl : q_lay M) (h : ((¬ (q_nm M 66 5) = 0 → (P (0 : Int) M)) ∧ ((q_nm M 66 5) = 0 → q_WP q_Pr d 152 [.inr (.inr 66)] M (fun v1 M2 => q_lay M2 ∧ ((v1 = x1 → (∀ M3 : qM, M3 = q_wn M2 66 2 (w32 ((q_nm M2 66 2) + (1 : Int))) → q_lay M3 → (P (1 : Int) M3))) ∧ (¬ v1 = x1 → (P (0 : Int) M2))))))) : q_At q_m156 (q_WP q_Pr d) P 0 [(0, .inr (.inr 66)), (1, .inl x1)] [] M c s := by
  refine s_156_0 ?_
  rw [lk66 hl]
  refine ⟨rfl, ?_⟩
  refine ⟨?_, ?_⟩
  · replace h := h.1
    intro g
    replace h := h g
    refine ⟨⟨by decide, by decide⟩, ?_⟩
    exact h
  · replace h := h.2
    intro g
    replace h := h g
    refine ⟨rfl, ?_⟩
    refine q_WP_mono _ _ _ _ _ _ (fun v1 M2 hh => ?_) h
    obtain ⟨hlM2, h⟩ := hh
    rw [lk66 hlM2]
    refine ⟨?_, ?_⟩
    · replace h := h.1
      intro g
      replace h := h g
      refine ⟨rfl, ?_⟩
      refine ⟨rfl, ?_⟩
      intro M3
      have hlM3 : q_lay M3 := q_lay_wn hlM2
      replace h := h M3 rfl hlM3
      refine ⟨⟨by decide, by decide⟩, ?_⟩
      exact h
    · replace h := h.2
      intro g
      replace h := h g
      refine ⟨⟨by decide, by decide⟩, ?_⟩
      exact h
theorem t_157_0 {d : Nat} {P : Int → qM → Prop} {x1 : Int} {M : qM} {c s : Nat} (hl : q_lay M) (h : ((¬ (q_nm M 66 5) = 0 → (P (0 : Int) M)) ∧ ((q_nm M 66 5) = 0 → q_WP q_Pr d 156 [.inr (.inr 66), .inl x1] M (fun v1 M2 => q_lay M2 ∧ ((¬ v1 = 0 → (P (0 : Int) M2)) ∧ (v1 = 0 → q_WP q_Pr d 149 [.inr (.inr 66), .inl (1 : Int), .inl (q_nm M2 66 2)] M2 (fun v3 M4 => q_lay M4 ∧ (P (0 : Int) M4)))))))) : q_At q_m157 (q_WP q_Pr d) P 0 [(0, .inr (.inr 66)), (1, .inl x1)] [] M c s := by
  refine s_157_0 ?_
  rw [lk66 hl]
  refine ⟨rfl, ?_⟩
  refine ⟨?_, ?_⟩
  · replace h := h.1
    intro g
    replace h := h g
    exact h
  · replace h := h.2
    intro g
    replace h := h g
    refine ⟨rfl, ?_⟩
    refine q_WP_mono _ _ _ _ _ _ (fun v1 M2 hh => ?_) h
    obtain ⟨hlM2, h⟩ := hh
    rw [lk66 hlM2]
    refine ⟨?_, ?_⟩
    · replace h := h.1
      intro g
      replace h := h g
      exact h
    · replace h := h.2
      intro g
      replace h := h g
      refine ⟨rfl, ?_⟩
      refine ⟨rfl, ?_⟩
      refine q_WP_mono _ _ _ _ _ _ (fun v3 M4 hh => ?_) h
      obtain ⟨hlM4, h⟩ := hh
      exact h
theorem t_158_0 {d : Nat} {P : Int → qM → Prop} {x1 x2 : Int} {M : qM} {c s : Nat} (hl : q_lay M) (h : (((q_nm M 66 5) = 0 → q_WP q_Pr (d + 1) 152 [.inr (.inr 66)] M (fun v1 M2 => q_lay M2 ∧ ((48 ≤ v1 ∧ v1 ≤ 57 → ((¬ (q_nm M2 66 2) = (q_nm M2 66 4) → (q_At q_m158 (q_WP q_Pr (d + 1)) P 49 [(0, .inr (.inr 66)), (1, .inl x1), (2, .inl x2), (3, .inl (q_nm M2 66 2)), (4, .inl (0 : Int))] [] M2 c s)) ∧ ((q_nm M2 66 2) = (q_nm M2 66 4) → q_WP q_Pr (d + 1) 149 [.inr (.inr 66), .inl (1 : Int), .inl (q_nm M2 66 2)] M2 (fun v7 M8 => q_lay M8 ∧ (P (0 : Int) M8))))) ∧ (¬ (48 ≤ v1 ∧ v1 ≤ 57) → q_WP q_Pr (d + 1) 149 [.inr (.inr 66), .inl (1 : Int), .inl (q_nm M2 66 2)] M2 (fun v5 M6 => q_lay M6 ∧ (P (0 : Int) M6)))))) ∧ (¬ (q_nm M 66 5) = 0 → (P (0 : Int) M)))) : q_At q_m158 (q_WP q_Pr (d + 1)) P 0 [(0, .inr (.inr 66)), (1, .inl x1), (2, .inl x2)] [] M c s := by
  refine s_158_0 ?_
  rw [lk66 hl]
  refine ⟨rfl, ?_⟩
  refine ⟨?_, ?_⟩
  · replace h := h.1
    intro g
    replace h := h g
    refine ⟨rfl, ?_⟩
    refine q_WP_mono _ _ _ _ _ _ (fun v1 M2 hh => ?_) h
    obtain ⟨hlM2, h⟩ := hh
    refine p_151 (fun g => ?_) (fun g => ?_)
    · replace h := h.1 g
      rw [lk66 hlM2]
      refine ⟨fun g => absurd g (by decide), fun _ => ?_⟩
      refine ⟨rfl, ?_⟩
      refine ⟨rfl, ?_⟩
      refine ⟨?_, ?_⟩
      · replace h := h.1
        intro g
        replace h := h g
        refine ⟨rfl, ?_⟩
        exact h
      · replace h := h.2
        intro g
        replace h := h g
        refine ⟨rfl, ?_⟩
        refine ⟨rfl, ?_⟩
        refine q_WP_mono _ _ _ _ _ _ (fun v7 M8 hh => ?_) h
        obtain ⟨hlM8, h⟩ := hh
        exact h
    · replace h := h.2 g
      rw [lk66 hlM2]
      refine ⟨fun _ => ?_, fun g => absurd g (by decide)⟩
      refine ⟨rfl, ?_⟩
      refine ⟨rfl, ?_⟩
      refine q_WP_mono _ _ _ _ _ _ (fun v5 M6 hh => ?_) h
      obtain ⟨hlM6, h⟩ := hh
      exact h
  · replace h := h.2
    intro g
    replace h := h g
    exact h
theorem t_158_49 {d : Nat} {P : Int → qM → Prop} {x1 x2 x3 x4 : Int} {M : qM} {c s : Nat} (hl : q_lay M) (h : (((q_nm M 66 3) ≤ (q_nm M 66 2) → (∀ M1 : qM, M1 = q_wn M 66 4 (q_nm M 66 2) → q_lay M1 → ((x1 ≤ x4 ∧ x4 ≤ x2 → (P x4 M1)) ∧ (¬ (x1 ≤ x4 ∧ x4 ≤ x2) → q_WP q_Pr (d + 1) 149 [.inr (.inr 66), .inl (2 : Int), .inl x3] M1 (fun v4 M5 => q_lay M5 ∧ (P x4 M5)))))) ∧ ((q_nm M 66 2) < (q_nm M 66 3) → ((0 ≤ (q_nm M 66 2) ∧ (q_nm M 66 2) < 2100) ∧ ((48 ≤ (q_nm M 67 (q_nm M 66 2)) ∧ (q_nm M 67 (q_nm M 66 2)) ≤ 57 → ((¬ (w32 ((q_nm M 66 2) - x3)) = (4 : Int) → ((0 ≤ (q_nm M 66 2) ∧ (q_nm M 66 2) < 2100) ∧ (∀ M13 : qM, M13 = q_wn M 66 2 (w32 ((q_nm M 66 2) + (1 : Int))) → q_lay M13 → (q_At q_m158 (q_WP q_Pr (d + 1)) P 49 [(0, .inr (.inr 66)), (1, .inl x1), (2, .inl x2), (3, .inl x3), (4, .inl (w32 ((w32 ((w32 ((10 : Int) * x4)) + (q_nm M 67 (q_nm M 66 2)))) - (48 : Int))))] [] M13 c s)))) ∧ ((w32 ((q_nm M 66 2) - x3)) = (4 : Int) → q_WP q_Pr (d + 1) 149 [.inr (.inr 66), .inl (1 : Int), .inl (q_nm M 66 2)] M (fun v14 M15 => q_lay M15 ∧ (P (0 : Int) M15))))) ∧ (¬ (48 ≤ (q_nm M 67 (q_nm M 66 2)) ∧ (q_nm M 67 (q_nm M 66 2)) ≤ 57) → (∀ M8 : qM, M8 = q_wn M 66 4 (q_nm M 66 2) → q_lay M8 → ((x1 ≤ x4 ∧ x4 ≤ x2 → (P x4 M8)) ∧ (¬ (x1 ≤ x4 ∧ x4 ≤ x2) → q_WP q_Pr (d + 1) 149 [.inr (.inr 66), .inl (2 : Int), .inl x3] M8 (fun v11 M12 => q_lay M12 ∧ (P x4 M12))))))))))) : q_At q_m158 (q_WP q_Pr (d + 1)) P 49 [(0, .inr (.inr 66)), (1, .inl x1), (2, .inl x2), (3, .inl x3), (4, .inl x4)] [] M c s := by
  refine s_158_49 ?_
  rw [lk66 hl, lr66_0 hl, ll67 hl, lk67 hl]
  refine ⟨rfl, ?_⟩
  refine ⟨rfl, ?_⟩
  refine ⟨?_, ?_⟩
  · replace h := h.1
    intro g
    replace h := h g
    refine ⟨rfl, ?_⟩
    refine ⟨rfl, ?_⟩
    intro M1
    have hlM1 : q_lay M1 := q_lay_wn hl
    replace h := h M1 rfl hlM1
    refine p_146 (fun g => ?_) (fun g => ?_)
    · replace h := h.1 g
      rw [lk66 hlM1]
      refine ⟨fun _ => ?_, fun g => absurd g (by decide)⟩
      exact h
    · replace h := h.2 g
      rw [lk66 hlM1]
      refine ⟨fun g => absurd g (by decide), fun _ => ?_⟩
      refine ⟨rfl, ?_⟩
      refine q_WP_mono _ _ _ _ _ _ (fun v4 M5 hh => ?_) h
      obtain ⟨hlM5, h⟩ := hh
      exact h
  · replace h := h.2
    intro g
    replace h := h g
    refine ⟨rfl, ?_⟩
    refine ⟨rfl, ?_⟩
    refine ⟨⟨rfl, h.1⟩, ?_⟩
    replace h := h.2
    refine p_151 (fun g => ?_) (fun g => ?_)
    · replace h := h.1 g
      rw [lk66 hl, lr66_0 hl, ll67 hl, lk67 hl]
      refine ⟨fun g => absurd g (by decide), fun _ => ?_⟩
      refine ⟨rfl, ?_⟩
      refine ⟨?_, ?_⟩
      · replace h := h.1
        intro g
        replace h := h g
        refine ⟨rfl, ?_⟩
        refine ⟨rfl, ?_⟩
        refine ⟨⟨rfl, h.1⟩, ?_⟩
        replace h := h.2
        refine ⟨rfl, ?_⟩
        refine ⟨rfl, ?_⟩
        intro M13
        have hlM13 : q_lay M13 := q_lay_wn hl
        replace h := h M13 rfl hlM13
        exact h
      · replace h := h.2
        intro g
        replace h := h g
        refine ⟨rfl, ?_⟩
        refine ⟨rfl, ?_⟩
        refine q_WP_mono _ _ _ _ _ _ (fun v14 M15 hh => ?_) h
        obtain ⟨hlM15, h⟩ := hh
        exact h
    · replace h := h.2 g
      rw [lk66 hl, lr66_0 hl, ll67 hl, lk67 hl]
      refine ⟨fun _ => ?_, fun g => absurd g (by decide)⟩
      refine ⟨rfl, ?_⟩
      refine ⟨rfl, ?_⟩
      intro M8
      have hlM8 : q_lay M8 := q_lay_wn hl
      replace h := h M8 rfl hlM8
      refine p_146 (fun g => ?_) (fun g => ?_)
      · replace h := h.1 g
        rw [lk66 hlM8]
        refine ⟨fun _ => ?_, fun g => absurd g (by decide)⟩
        exact h
      · replace h := h.2 g
        rw [lk66 hlM8]
        refine ⟨fun g => absurd g (by decide), fun _ => ?_⟩
        refine ⟨rfl, ?_⟩
        refine q_WP_mono _ _ _ _ _ _ (fun v11 M12 hh => ?_) h
        obtain ⟨hlM12, h⟩ := hh
        exact h
theorem t_160_0 {d : Nat} {P : Int → qM → Prop} {x1 : Int} {M : qM} {c s : Nat} (hl : q_lay M) (h : (q_At q_m160 (q_WP q_Pr d) P 2 [(0, .inr (.inr 66)), (1, .inl x1), (2, .inl (0 : Int))] [] M c s)) : q_At q_m160 (q_WP q_Pr d) P 0 [(0, .inr (.inr 66)), (1, .inl x1)] [] M c s := by
  refine s_160_0 ?_
  exact h
theorem t_160_2 {d : Nat} {P : Int → qM → Prop} {x1 x2 : Int} {M : qM} {c s : Nat} (hl : q_lay M) (h : ((x1 ≤ x2 → (P (1 : Int) M)) ∧ (x2 < x1 → ((0 ≤ x2 ∧ x2 < 2100) ∧ (((97 : Int) ≤ (q_nm M 67 x2) ∧ (q_nm M 67 x2) ≤ (122 : Int) → (q_At q_m160 (q_WP q_Pr (d + 1)) P 2 [(0, .inr (.inr 66)), (1, .inl x1), (2, .inl (w32 (x2 + 1)))] [] M c s)) ∧ (¬ ((97 : Int) ≤ (q_nm M 67 x2) ∧ (q_nm M 67 x2) ≤ (122 : Int)) → (P (0 : Int) M))))))) : q_At q_m160 (q_WP q_Pr (d + 1)) P 2 [(0, .inr (.inr 66)), (1, .inl x1), (2, .inl x2)] [] M c s := by
  refine s_160_2 ?_
  rw [lk66 hl, lr66_0 hl, ll67 hl, lk67 hl]
  refine ⟨?_, ?_⟩
  · replace h := h.1
    intro g
    replace h := h g
    refine ⟨⟨by decide, by decide⟩, ?_⟩
    exact h
  · replace h := h.2
    intro g
    replace h := h g
    refine ⟨rfl, ?_⟩
    refine ⟨⟨rfl, h.1⟩, ?_⟩
    replace h := h.2
    refine p_146 (fun g => ?_) (fun g => ?_)
    · replace h := h.1 g
      refine ⟨fun _ => ?_, fun g => absurd g (by decide)⟩
      exact h
    · replace h := h.2 g
      refine ⟨fun g => absurd g (by decide), fun _ => ?_⟩
      refine ⟨⟨by decide, by decide⟩, ?_⟩
      exact h
theorem t_161_0 {d : Nat} {P : Int → qM → Prop} {x1 x2 : Int} {M : qM} {c s : Nat} (hl : q_lay M) (h : ((0 ≤ x1 ∧ x1 < 30) ∧ (((q_nm M 93 x1) = x2 → (q_At q_m161 (q_WP q_Pr d) P 14 [(0, .inr (.inr 66)), (1, .inl x1), (2, .inl x2), (3, .inl (0 : Int))] [] M c s)) ∧ (¬ (q_nm M 93 x1) = x2 → (P (0 : Int) M))))) : q_At q_m161 (q_WP q_Pr d) P 0 [(0, .inr (.inr 66)), (1, .inl x1), (2, .inl x2)] [] M c s := by
  refine s_161_0 ?_
  rw [lk66 hl, lr66_35 hl, ll93 hl, lk93 hl]
  refine ⟨rfl, ?_⟩
  refine ⟨⟨rfl, h.1⟩, ?_⟩
  replace h := h.2
  refine ⟨?_, ?_⟩
  · replace h := h.1
    intro g
    replace h := h g
    exact h
  · replace h := h.2
    intro g
    replace h := h g
    refine ⟨⟨by decide, by decide⟩, ?_⟩
    exact h
theorem t_161_14 {d : Nat} {P : Int → qM → Prop} {x1 x2 x3 : Int} {M : qM} {c s : Nat} (hl : q_lay M) (h : ((x2 ≤ x3 → (P (1 : Int) M)) ∧ (x3 < x2 → ((0 ≤ (w32 ((w32 ((8 : Int) * x1)) + x3)) ∧ (w32 ((w32 ((8 : Int) * x1)) + x3)) < 240) ∧ ((0 ≤ x3 ∧ x3 < 2100) ∧ (((q_nm M 92 (w32 ((w32 ((8 : Int) * x1)) + x3))) = (q_nm M 67 x3) → (q_At q_m161 (q_WP q_Pr d) P 14 [(0, .inr (.inr 66)), (1, .inl x1), (2, .inl x2), (3, .inl (w32 (x3 + 1)))] [] M c s)) ∧ (¬ (q_nm M 92 (w32 ((w32 ((8 : Int) * x1)) + x3))) = (q_nm M 67 x3) → (P (0 : Int) M)))))))) : q_At q_m161 (q_WP q_Pr d) P 14 [(0, .inr (.inr 66)), (1, .inl x1), (2, .inl x2), (3, .inl x3)] [] M c s := by
  refine s_161_14 ?_
  rw [lk66 hl, lr66_34 hl, ll92 hl, lk92 hl, lr66_0 hl, ll67 hl, lk67 hl]
  refine ⟨?_, ?_⟩
  · replace h := h.1
    intro g
    replace h := h g
    refine ⟨⟨by decide, by decide⟩, ?_⟩
    exact h
  · replace h := h.2
    intro g
    replace h := h g
    refine ⟨rfl, ?_⟩
    refine ⟨⟨rfl, h.1⟩, ?_⟩
    replace h := h.2
    refine ⟨rfl, ?_⟩
    refine ⟨⟨rfl, h.1⟩, ?_⟩
    replace h := h.2
    refine ⟨?_, ?_⟩
    · replace h := h.1
      intro g
      replace h := h g
      exact h
    · replace h := h.2
      intro g
      replace h := h g
      refine ⟨⟨by decide, by decide⟩, ?_⟩
      exact h
theorem t_162_0 {d : Nat} {P : Int → qM → Prop} {x1 x2 x3 : Int} {M : qM} {c s : Nat} (hl : q_lay M) (h : (∀ M1 : qM, M1 = q_wn M 66 1 (0 : Int) → q_lay M1 → (((1 : Int) ≤ (q_nm M 66 1) ∧ (q_nm M 66 1) ≤ (8 : Int) → q_WP q_Pr (d + 1) 160 [.inr (.inr 66), .inl (q_nm M 66 1)] M1 (fun v4 M5 => q_lay M5 ∧ ((v4 = 0 → (P (-1 : Int) M5)) ∧ (¬ v4 = 0 → (((0 : Int) ≤ x1 ∧ x1 ≤ (4 : Int) → (((0 : Int) ≤ x2 ∧ x2 ≤ (9 : Int) → (((1 : Int) ≤ x3 ∧ x3 ≤ (99 : Int) → ((¬ (q_nm M5 66 33) = (30 : Int) → (q_At q_m162 (q_WP q_Pr (d + 1)) P 83 [(0, .inr (.inr 66)), (1, .inl x1), (2, .inl x2), (3, .inl x3), (4, .inl (q_nm M 66 1)), (5, .inl (0 : Int))] [] M5 c s)) ∧ ((q_nm M5 66 33) = (30 : Int) → (P (-1 : Int) M5)))) ∧ (¬ ((1 : Int) ≤ x3 ∧ x3 ≤ (99 : Int)) → (P (-1 : Int) M5)))) ∧ (¬ ((0 : Int) ≤ x2 ∧ x2 ≤ (9 : Int)) → (P (-1 : Int) M5)))) ∧ (¬ ((0 : Int) ≤ x1 ∧ x1 ≤ (4 : Int)) → (P (-1 : Int) M5))))))) ∧ (¬ ((1 : Int) ≤ (q_nm M 66 1) ∧ (q_nm M 66 1) ≤ (8 : Int)) → (P (-1 : Int) M1))))) : q_At q_m162 (q_WP q_Pr (d + 1)) P 0 [(0, .inr (.inr 66)), (1, .inl x1), (2, .inl x2), (3, .inl x3)] [] M c s := by
  refine s_162_0 ?_
  rw [lk66 hl]
  refine ⟨rfl, ?_⟩
  refine ⟨rfl, ?_⟩
  intro M1
  have hlM1 : q_lay M1 := q_lay_wn hl
  replace h := h M1 rfl hlM1
  refine p_146 (fun g => ?_) (fun g => ?_)
  · replace h := h.1 g
    rw [lk66 hlM1]
    refine ⟨fun g => absurd g (by decide), fun _ => ?_⟩
    refine ⟨rfl, ?_⟩
    refine q_WP_mono _ _ _ _ _ _ (fun v4 M5 hh => ?_) h
    obtain ⟨hlM5, h⟩ := hh
    refine ⟨?_, ?_⟩
    · replace h := h.1
      intro g
      replace h := h g
      exact h
    · replace h := h.2
      intro g
      replace h := h g
      refine p_146 (fun g => ?_) (fun g => ?_)
      · replace h := h.1 g
        refine ⟨fun g => absurd g (by decide), fun _ => ?_⟩
        refine p_146 (fun g => ?_) (fun g => ?_)
        · replace h := h.1 g
          refine ⟨fun g => absurd g (by decide), fun _ => ?_⟩
          refine p_146 (fun g => ?_) (fun g => ?_)
          · replace h := h.1 g
            rw [lk66 hlM5]
            refine ⟨fun g => absurd g (by decide), fun _ => ?_⟩
            refine ⟨rfl, ?_⟩
            refine ⟨?_, ?_⟩
            · replace h := h.1
              intro g
              replace h := h g
              exact h
            · replace h := h.2
              intro g
              replace h := h g
              exact h
          · replace h := h.2 g
            rw [lk66 hlM5]
            refine ⟨fun _ => ?_, fun g => absurd g (by decide)⟩
            exact h
        · replace h := h.2 g
          refine ⟨fun _ => ?_, fun g => absurd g (by decide)⟩
          exact h
      · replace h := h.2 g
        refine ⟨fun _ => ?_, fun g => absurd g (by decide)⟩
        exact h
  · replace h := h.2 g
    rw [lk66 hlM1]
    refine ⟨fun _ => ?_, fun g => absurd g (by decide)⟩
    exact h
theorem t_162_83 {d : Nat} {P : Int → qM → Prop} {x1 x2 x3 x4 x5 : Int} {M : qM} {c s : Nat} (hl : q_lay M) (h : (((q_nm M 66 33) ≤ x5 → ((0 ≤ (q_nm M 66 33) ∧ (q_nm M 66 33) < 30) ∧ (∀ M1 : qM, M1 = q_wn M 93 (q_nm M 66 33) x4 → q_lay M1 → ((0 ≤ (q_nm M 66 33) ∧ (q_nm M 66 33) < 30) ∧ (∀ M2 : qM, M2 = q_wn M1 94 (q_nm M 66 33) x4 → q_lay M2 → (q_At q_m162 (q_WP q_Pr d) P 141 [(0, .inr (.inr 66)), (1, .inl x1), (2, .inl x2), (3, .inl x3), (5, .inl (q_nm M 66 33)), (6, .inl (w32 (x4 - (1 : Int))))] [] M2 c s)))))) ∧ (x5 < (q_nm M 66 33) → q_WP q_Pr d 161 [.inr (.inr 66), .inl x5, .inl x4] M (fun v3 M4 => q_lay M4 ∧ ((v3 = 0 → (q_At q_m162 (q_WP q_Pr d) P 83 [(0, .inr (.inr 66)), (1, .inl x1), (2, .inl x2), (3, .inl x3), (4, .inl x4), (5, .inl (w32 (x5 + 1)))] [] M4 c s)) ∧ (¬ v3 = 0 → (P (-1 : Int) M4))))))) : q_At q_m162 (q_WP q_Pr d) P 83 [(0, .inr (.inr 66)), (1, .inl x1), (2, .inl x2), (3, .inl x3), (4, .inl x4), (5, .inl x5)] [] M c s := by
  refine s_162_83 ?_
  rw [lk66 hl, lr66_35 hl, ll93 hl, lk93 hl]
  refine ⟨rfl, ?_⟩
  refine ⟨?_, ?_⟩
  · replace h := h.1
    intro g
    replace h := h g
    refine ⟨rfl, ?_⟩
    refine ⟨rfl, ?_⟩
    refine ⟨⟨⟨by decide, rfl⟩, h.1⟩, ?_⟩
    replace h := h.2
    intro M1
    have hlM1 : q_lay M1 := q_lay_wn hl
    replace h := h M1 rfl hlM1
    rw [lk66 hlM1, lr66_36 hlM1, ll94 hlM1, lk94 hlM1]
    refine ⟨rfl, ?_⟩
    refine ⟨⟨⟨by decide, rfl⟩, h.1⟩, ?_⟩
    replace h := h.2
    intro M2
    have hlM2 : q_lay M2 := q_lay_wn hlM1
    replace h := h M2 rfl hlM2
    exact h
  · replace h := h.2
    intro g
    replace h := h g
    refine ⟨rfl, ?_⟩
    refine q_WP_mono _ _ _ _ _ _ (fun v3 M4 hh => ?_) h
    obtain ⟨hlM4, h⟩ := hh
    refine ⟨?_, ?_⟩
    · replace h := h.1
      intro g
      replace h := h g
      exact h
    · replace h := h.2
      intro g
      replace h := h g
      exact h
theorem t_162_141 {d : Nat} {P : Int → qM → Prop} {x1 x2 x3 x5 x6 : Int} {M : qM} {c s : Nat} (hl : q_lay M) (h : ((x6 < 0 → ((0 ≤ x5 ∧ x5 < 30) ∧ (∀ M1 : qM, M1 = q_wn M 95 x5 x1 → q_lay M1 → ((0 ≤ x5 ∧ x5 < 30) ∧ (∀ M2 : qM, M2 = q_wn M1 96 x5 x2 → q_lay M2 → ((0 ≤ x5 ∧ x5 < 30) ∧ (∀ M3 : qM, M3 = q_wn M2 97 x5 x3 → q_lay M3 → (∀ M4 : qM, M4 = q_wn M3 66 33 (w32 ((q_nm M3 66 33) + (1 : Int))) → q_lay M4 → (P x5 M4))))))))) ∧ (0 ≤ x6 → ((0 ≤ x6 ∧ x6 < 2100) ∧ ((0 ≤ (w32 ((w32 ((8 : Int) * x5)) + x6)) ∧ (w32 ((w32 ((8 : Int) * x5)) + x6)) < 240) ∧ (∀ M5 : qM, M5 = q_wn M 92 (w32 ((w32 ((8 : Int) * x5)) + x6)) (q_nm M 67 x6) → q_lay M5 → ((0 ≤ x6 ∧ x6 < 2100) ∧ ((q_vow (q_nm M5 67 x6) → ((0 ≤ x5 ∧ x5 < 30) ∧ (∀ M8 : qM, M8 = q_wn M5 94 x5 x6 → q_lay M8 → (q_At q_m162 (q_WP q_Pr (d + 1)) P 141 [(0, .inr (.inr 66)), (1, .inl x1), (2, .inl x2), (3, .inl x3), (5, .inl x5), (6, .inl (w32 (x6 + (-1))))] [] M8 c s)))) ∧ (¬ (q_vow (q_nm M5 67 x6)) → (q_At q_m162 (q_WP q_Pr (d + 1)) P 141 [(0, .inr (.inr 66)), (1, .inl x1), (2, .inl x2), (3, .inl x3), (5, .inl x5), (6, .inl (w32 (x6 + (-1))))] [] M5 c s)))))))))) : q_At q_m162 (q_WP q_Pr (d + 1)) P 141 [(0, .inr (.inr 66)), (1, .inl x1), (2, .inl x2), (3, .inl x3), (5, .inl x5), (6, .inl x6)] [] M c s := by
  refine s_162_141 ?_
  rw [lk66 hl, lr66_37 hl, ll95 hl, lk95 hl, lr66_0 hl, ll67 hl, lk67 hl, lr66_34 hl, ll92 hl, lk92 hl]
  refine ⟨?_, ?_⟩
  · replace h := h.1
    intro g
    replace h := h g
    refine ⟨rfl, ?_⟩
    refine ⟨⟨⟨by decide, rfl⟩, h.1⟩, ?_⟩
    replace h := h.2
    intro M1
    have hlM1 : q_lay M1 := q_lay_wn hl
    replace h := h M1 rfl hlM1
    rw [lk66 hlM1, lr66_38 hlM1, ll96 hlM1, lk96 hlM1]
    refine ⟨rfl, ?_⟩
    refine ⟨⟨⟨by decide, rfl⟩, h.1⟩, ?_⟩
    replace h := h.2
    intro M2
    have hlM2 : q_lay M2 := q_lay_wn hlM1
    replace h := h M2 rfl hlM2
    rw [lk66 hlM2, lr66_39 hlM2, ll97 hlM2, lk97 hlM2]
    refine ⟨rfl, ?_⟩
    refine ⟨⟨⟨by decide, rfl⟩, h.1⟩, ?_⟩
    replace h := h.2
    intro M3
    have hlM3 : q_lay M3 := q_lay_wn hlM2
    replace h := h M3 rfl hlM3
    rw [lk66 hlM3]
    refine ⟨rfl, ?_⟩
    refine ⟨rfl, ?_⟩
    intro M4
    have hlM4 : q_lay M4 := q_lay_wn hlM3
    replace h := h M4 rfl hlM4
    exact h
  · replace h := h.2
    intro g
    replace h := h g
    refine ⟨rfl, ?_⟩
    refine ⟨rfl, ?_⟩
    refine ⟨⟨rfl, h.1⟩, ?_⟩
    replace h := h.2
    refine ⟨⟨⟨by decide, rfl⟩, h.1⟩, ?_⟩
    replace h := h.2
    intro M5
    have hlM5 : q_lay M5 := q_lay_wn hl
    replace h := h M5 rfl hlM5
    rw [lk66 hlM5, lr66_0 hlM5, ll67 hlM5, lk67 hlM5]
    refine ⟨rfl, ?_⟩
    refine ⟨⟨rfl, h.1⟩, ?_⟩
    replace h := h.2
    refine p_159 (fun g => ?_) (fun g => ?_)
    · replace h := h.1 g
      rw [lk66 hlM5, lr66_36 hlM5, ll94 hlM5, lk94 hlM5]
      refine ⟨fun g => absurd g (by decide), fun _ => ?_⟩
      refine ⟨rfl, ?_⟩
      refine ⟨⟨⟨by decide, rfl⟩, h.1⟩, ?_⟩
      replace h := h.2
      intro M8
      have hlM8 : q_lay M8 := q_lay_wn hlM5
      replace h := h M8 rfl hlM8
      exact h
    · replace h := h.2 g
      rw [lk66 hlM5, lr66_36 hlM5, ll94 hlM5, lk94 hlM5]
      refine ⟨fun _ => ?_, fun g => absurd g (by decide)⟩
      exact h
theorem t_163_0 {d : Nat} {P : Int → qM → Prop} {x1 x2 x3 x4 x5 x6 : Int} {M : qM} {c s : Nat} (hl : q_lay M) (h : (((12 : Int) ≤ (q_nm M 66 40) → (q_At q_m163 (q_WP q_Pr d) P 22 [(0, .inr (.inr 66)), (1, .inl x1), (2, .inl x2), (3, .inl x3), (4, .inl x4), (5, .inl x5), (6, .inl x6), (7, .inl (0 : Int)), (8, .inl (0 : Int)), (9, .inl (0 : Int))] [] M c s)) ∧ ((q_nm M 66 40) < (12 : Int) → (q_At q_m163 (q_WP q_Pr d) P 22 [(0, .inr (.inr 66)), (1, .inl x1), (2, .inl x2), (3, .inl x3), (4, .inl x4), (5, .inl x5), (6, .inl x6), (7, .inl (0 : Int)), (8, .inl (1 : Int)), (9, .inl (0 : Int))] [] M c s)))) : q_At q_m163 (q_WP q_Pr d) P 0 [(0, .inr (.inr 66)), (1, .inl x1), (2, .inl x2), (3, .inl x3), (4, .inl x4), (5, .inl x5), (6, .inl x6)] [] M c s := by
  refine s_163_0 ?_
  rw [lk66 hl]
  refine ⟨rfl, ?_⟩
  refine ⟨?_, ?_⟩
  · replace h := h.1
    intro g
    replace h := h g
    exact h
  · replace h := h.2
    intro g
    replace h := h g
    exact h
theorem t_163_22 {d : Nat} {P : Int → qM → Prop} {x1 x2 x3 x4 x5 x6 x7 x8 x9 : Int} {M : qM} {c s : Nat} (hl : q_lay M) (h : (((6 : Int) ≤ x9 → ((x8 = 0 → (P (-1 : Int) M)) ∧ (¬ x8 = 0 → ((¬ x7 = 0 → ((0 ≤ (q_nm M 66 40) ∧ (q_nm M 66 40) < 12) ∧ (∀ M1 : qM, M1 = q_wn M 98 (q_nm M 66 40) x7 → q_lay M1 → (∀ M2 : qM, M2 = q_wn M1 66 40 (w32 ((q_nm M1 66 40) + (1 : Int))) → q_lay M2 → (P (w32 ((q_nm M2 66 40) - (1 : Int))) M2))))) ∧ (x7 = 0 → (P (-1 : Int) M)))))) ∧ (x9 < (6 : Int) → ((¬ x9 = 0 → ((¬ x9 = (1 : Int) → ((¬ x9 = (2 : Int) → ((¬ x9 = (3 : Int) → ((¬ x9 = (4 : Int) → (q_At q_m163 (q_WP q_Pr d) P 82 [(0, .inr (.inr 66)), (1, .inl x1), (2, .inl x2), (3, .inl x3), (4, .inl x4), (5, .inl x5), (6, .inl x6), (7, .inl x7), (8, .inl x8), (9, .inl x9)] [.inl x6] M c s)) ∧ (x9 = (4 : Int) → (q_At q_m163 (q_WP q_Pr d) P 82 [(0, .inr (.inr 66)), (1, .inl x1), (2, .inl x2), (3, .inl x3), (4, .inl x4), (5, .inl x5), (6, .inl x6), (7, .inl x7), (8, .inl x8), (9, .inl x9)] [.inl x5] M c s)))) ∧ (x9 = (3 : Int) → (q_At q_m163 (q_WP q_Pr d) P 82 [(0, .inr (.inr 66)), (1, .inl x1), (2, .inl x2), (3, .inl x3), (4, .inl x4), (5, .inl x5), (6, .inl x6), (7, .inl x7), (8, .inl x8), (9, .inl x9)] [.inl x4] M c s)))) ∧ (x9 = (2 : Int) → (q_At q_m163 (q_WP q_Pr d) P 82 [(0, .inr (.inr 66)), (1, .inl x1), (2, .inl x2), (3, .inl x3), (4, .inl x4), (5, .inl x5), (6, .inl x6), (7, .inl x7), (8, .inl x8), (9, .inl x9)] [.inl x3] M c s)))) ∧ (x9 = (1 : Int) → (q_At q_m163 (q_WP q_Pr d) P 82 [(0, .inr (.inr 66)), (1, .inl x1), (2, .inl x2), (3, .inl x3), (4, .inl x4), (5, .inl x5), (6, .inl x6), (7, .inl x7), (8, .inl x8), (9, .inl x9)] [.inl x2] M c s)))) ∧ (x9 = 0 → (q_At q_m163 (q_WP q_Pr d) P 82 [(0, .inr (.inr 66)), (1, .inl x1), (2, .inl x2), (3, .inl x3), (4, .inl x4), (5, .inl x5), (6, .inl x6), (7, .inl x7), (8, .inl x8), (9, .inl x9)] [.inl x1] M c s)))))) : q_At q_m163 (q_WP q_Pr d) P 22 [(0, .inr (.inr 66)), (1, .inl x1), (2, .inl x2), (3, .inl x3), (4, .inl x4), (5, .inl x5), (6, .inl x6), (7, .inl x7), (8, .inl x8), (9, .inl x9)] [] M c s := by
  refine s_163_22 ?_
  rw [lk66 hl, lr66_41 hl, ll98 hl, lk98 hl]
  refine ⟨?_, ?_⟩
  · replace h := h.1
    intro g
    replace h := h g
    refine ⟨?_, ?_⟩
    · replace h := h.1
      intro g
      replace h := h g
      exact h
    · replace h := h.2
      intro g
      replace h := h g
      refine ⟨?_, ?_⟩
      · replace h := h.1
        intro g
        replace h := h g
        refine ⟨rfl, ?_⟩
        refine ⟨rfl, ?_⟩
        refine ⟨⟨⟨by decide, rfl⟩, h.1⟩, ?_⟩
        replace h := h.2
        intro M1
        have hlM1 : q_lay M1 := q_lay_wn hl
        replace h := h M1 rfl hlM1
        rw [lk66 hlM1]
        refine ⟨rfl, ?_⟩
        refine ⟨rfl, ?_⟩
        intro M2
        have hlM2 : q_lay M2 := q_lay_wn hlM1
        replace h := h M2 rfl hlM2
        rw [lk66 hlM2]
        refine ⟨rfl, ?_⟩
        exact h
      · replace h := h.2
        intro g
        replace h := h g
        exact h
  · replace h := h.2
    intro g
    replace h := h g
    refine ⟨?_, ?_⟩
    · replace h := h.1
      intro g
      replace h := h g
      refine ⟨?_, ?_⟩
      · replace h := h.1
        intro g
        replace h := h g
        refine ⟨?_, ?_⟩
        · replace h := h.1
          intro g
          replace h := h g
          refine ⟨?_, ?_⟩
          · replace h := h.1
            intro g
            replace h := h g
            refine ⟨?_, ?_⟩
            · replace h := h.1
              intro g
              replace h := h g
              exact h
            · replace h := h.2
              intro g
              replace h := h g
              exact h
          · replace h := h.2
            intro g
            replace h := h g
            exact h
        · replace h := h.2
          intro g
          replace h := h g
          exact h
      · replace h := h.2
        intro g
        replace h := h g
        exact h
    · replace h := h.2
      intro g
      replace h := h g
      exact h
theorem t_163_82 {d : Nat} {P : Int → qM → Prop} {x1 x2 x3 x4 x5 x6 x7 x8 x9 y0 : Int} {M : qM} {c s : Nat} (hl : q_lay M) (h : ((x8 = 0 → (q_At q_m163 (q_WP q_Pr (d + 1)) P 124 [(0, .inr (.inr 66)), (1, .inl x1), (2, .inl x2), (3, .inl x3), (4, .inl x4), (5, .inl x5), (6, .inl x6), (7, .inl x7), (9, .inl x9), (10, .inl y0)] [.inl (0 : Int)] M c s)) ∧ (¬ x8 = 0 → ((y0 = (-1 : Int) → (q_At q_m163 (q_WP q_Pr (d + 1)) P 124 [(0, .inr (.inr 66)), (1, .inl x1), (2, .inl x2), (3, .inl x3), (4, .inl x4), (5, .inl x5), (6, .inl x6), (7, .inl x7), (9, .inl x9), (10, .inl y0)] [.inl (1 : Int)] M c s)) ∧ (¬ y0 = (-1 : Int) → (((0 : Int) ≤ y0 ∧ y0 ≤ (w32 ((q_nm M 66 33) - (1 : Int))) → ((¬ x7 = x9 → (q_At q_m163 (q_WP q_Pr (d + 1)) P 124 [(0, .inr (.inr 66)), (1, .inl x1), (2, .inl x2), (3, .inl x3), (4, .inl x4), (5, .inl x5), (6, .inl x6), (7, .inl x7), (9, .inl x9), (10, .inl y0)] [.inl (0 : Int)] M c s)) ∧ (x7 = x9 → (q_At q_m163 (q_WP q_Pr (d + 1)) P 124 [(0, .inr (.inr 66)), (1, .inl x1), (2, .inl x2), (3, .inl x3), (4, .inl x4), (5, .inl x5), (6, .inl x6), (7, .inl x7), (9, .inl x9), (10, .inl y0)] [.inl (1 : Int)] M c s)))) ∧ (¬ ((0 : Int) ≤ y0 ∧ y0 ≤ (w32 ((q_nm M 66 33) - (1 : Int)))) → (q_At q_m163 (q_WP q_Pr (d + 1)) P 124 [(0, .inr (.inr 66)), (1, .inl x1), (2, .inl x2), (3, .inl x3), (4, .inl x4), (5, .inl x5), (6, .inl x6), (7, .inl x7), (9, .inl x9), (10, .inl y0)] [.inl (0 : Int)] M c s)))))))) : q_At q_m163 (q_WP q_Pr (d + 1)) P 82 [(0, .inr (.inr 66)), (1, .inl x1), (2, .inl x2), (3, .inl x3), (4, .inl x4), (5, .inl x5), (6, .inl x6), (7, .inl x7), (8, .inl x8), (9, .inl x9)] [.inl y0] M c s := by
  refine s_163_82 ?_
  rw [lk66 hl]
  refine ⟨?_, ?_⟩
  · replace h := h.1
    intro g
    replace h := h g
    exact h
  · replace h := h.2
    intro g
    replace h := h g
    refine ⟨?_, ?_⟩
    · replace h := h.1
      intro g
      replace h := h g
      exact h
    · replace h := h.2
      intro g
      replace h := h g
      refine ⟨rfl, ?_⟩
      refine p_146 (fun g => ?_) (fun g => ?_)
      · replace h := h.1 g
        refine ⟨fun g => absurd g (by decide), fun _ => ?_⟩
        refine ⟨?_, ?_⟩
        · replace h := h.1
          intro g
          replace h := h g
          exact h
        · replace h := h.2
          intro g
          replace h := h g
          exact h
      · replace h := h.2 g
        refine ⟨fun _ => ?_, fun g => absurd g (by decide)⟩
        exact h
theorem t_163_124 {d : Nat} {P : Int → qM → Prop} {x1 x2 x3 x4 x5 x6 x7 x9 x10 y0 : Int} {M : qM} {c s : Nat} (hl : q_lay M) (h : ((y0 = 0 → (q_At q_m163 (q_WP q_Pr d) P 160 [(0, .inr (.inr 66)), (1, .inl x1), (2, .inl x2), (3, .inl x3), (4, .inl x4), (5, .inl x5), (6, .inl x6), (7, .inl x7), (8, .inl y0), (9, .inl x9)] [] M c s)) ∧ (¬ y0 = 0 → ((¬ x10 = (-1 : Int) → ((0 ≤ (w32 ((w32 ((6 : Int) * (q_nm M 66 40))) + x9)) ∧ (w32 ((w32 ((6 : Int) * (q_nm M 66 40))) + x9)) < 72) ∧ (∀ M1 : qM, M1 = q_wn M 99 (w32 ((w32 ((6 : Int) * (q_nm M 66 40))) + x9)) x10 → q_lay M1 → (q_At q_m163 (q_WP q_Pr d) P 160 [(0, .inr (.inr 66)), (1, .inl x1), (2, .inl x2), (3, .inl x3), (4, .inl x4), (5, .inl x5), (6, .inl x6), (7, .inl (w32 (x7 + 1))), (8, .inl y0), (9, .inl x9)] [] M1 c s)))) ∧ (x10 = (-1 : Int) → (q_At q_m163 (q_WP q_Pr d) P 160 [(0, .inr (.inr 66)), (1, .inl x1), (2, .inl x2), (3, .inl x3), (4, .inl x4), (5, .inl x5), (6, .inl x6), (7, .inl x7), (8, .inl y0), (9, .inl x9)] [] M c s)))))) : q_At q_m163 (q_WP q_Pr d) P 124 [(0, .inr (.inr 66)), (1, .inl x1), (2, .inl x2), (3, .inl x3), (4, .inl x4), (5, .inl x5), (6, .inl x6), (7, .inl x7), (9, .inl x9), (10, .inl x10)] [.inl y0] M c s := by
  refine s_163_124 ?_
  rw [lk66 hl, lr66_42 hl, ll99 hl, lk99 hl]
  refine ⟨?_, ?_⟩
  · replace h := h.1
    intro g
    replace h := h g
    exact h
  · replace h := h.2
    intro g
    replace h := h g
    refine ⟨?_, ?_⟩
    · replace h := h.1
      intro g
      replace h := h g
      refine ⟨rfl, ?_⟩
      refine ⟨rfl, ?_⟩
      refine ⟨⟨⟨by decide, rfl⟩, h.1⟩, ?_⟩
      replace h := h.2
      intro M1
      have hlM1 : q_lay M1 := q_lay_wn hl
      replace h := h M1 rfl hlM1
      exact h
    · replace h := h.2
      intro g
      replace h := h g
      exact h
theorem t_163_160 {d : Nat} {P : Int → qM → Prop} {x1 x2 x3 x4 x5 x6 x7 x8 x9 : Int} {M : qM} {c s : Nat} (hl : q_lay M) (h : (q_At q_m163 (q_WP q_Pr d) P 22 [(0, .inr (.inr 66)), (1, .inl x1), (2, .inl x2), (3, .inl x3), (4, .inl x4), (5, .inl x5), (6, .inl x6), (7, .inl x7), (8, .inl x8), (9, .inl (w32 (x9 + 1)))] [] M c s)) : q_At q_m163 (q_WP q_Pr d) P 160 [(0, .inr (.inr 66)), (1, .inl x1), (2, .inl x2), (3, .inl x3), (4, .inl x4), (5, .inl x5), (6, .inl x6), (7, .inl x7), (8, .inl x8), (9, .inl x9)] [] M c s := by
  refine s_163_160 ?_
  exact h
theorem t_166_0 {d : Nat} {P : Int → qM → Prop} {x1 : Int} {M : qM} {c s : Nat} (hl : q_lay M) (h : (((x1 = 0 → (P (q_nm M 66 33) M)) ∧ ((x1 = 1 → (P (q_nm M 66 40) M)) ∧ ((x1 = 2 → (q_At q_m166 (q_WP q_Pr d) P 52 [(0, .inr (.inr 66)), (2, .inl (0 : Int)), (3, .inl (0 : Int))] [] M c s)) ∧ ((x1 = 3 → (P (q_nm M 66 73) M)) ∧ ((x1 = 4 → (P (q_nm M 66 71) M)) ∧ ((x1 = 5 → (((q_nm M 100 (4 : Int)) = 0 → (P (0 : Int) M)) ∧ (¬ (q_nm M 100 (4 : Int)) = 0 → (P (1 : Int) M)))) ∧ True)))))) ∧ ((x1 < 0 ∨ 5 < x1) → (P (-1 : Int) M)))) : q_At q_m166 (q_WP q_Pr d) P 0 [(0, .inr (.inr 66)), (1, .inl x1)] [] M c s := by
  refine s_166_0 ?_
  rw [lk66 hl, lr66_43 hl, ll100 hl, lk100 hl]
  refine ⟨?_, ?_⟩
  · replace h := h.1
    refine ⟨?_, ?_⟩
    · replace h := h.1
      intro g
      replace h := h g
      refine ⟨rfl, ?_⟩
      exact h
    · replace h := h.2
      refine ⟨?_, ?_⟩
      · replace h := h.1
        intro g
        replace h := h g
        refine ⟨rfl, ?_⟩
        exact h
      · replace h := h.2
        refine ⟨?_, ?_⟩
        · replace h := h.1
          intro g
          replace h := h g
          exact h
        · replace h := h.2
          refine ⟨?_, ?_⟩
          · replace h := h.1
            intro g
            replace h := h g
            refine ⟨rfl, ?_⟩
            exact h
          · replace h := h.2
            refine ⟨?_, ?_⟩
            · replace h := h.1
              intro g
              replace h := h g
              refine ⟨rfl, ?_⟩
              exact h
            · replace h := h.2
              refine ⟨?_, ?_⟩
              · replace h := h.1
                intro g
                replace h := h g
                refine ⟨rfl, ?_⟩
                refine ⟨⟨Or.inr rfl, ⟨by decide, by decide⟩⟩, ?_⟩
                refine ⟨?_, ?_⟩
                · replace h := h.1
                  intro g
                  replace h := h g
                  exact h
                · replace h := h.2
                  intro g
                  replace h := h g
                  exact h
              · replace h := h.2
                exact trivial
  · replace h := h.2
    intro g
    replace h := h g
    exact h
theorem t_166_52 {d : Nat} {P : Int → qM → Prop} {x2 x3 : Int} {M : qM} {c s : Nat} (hl : q_lay M) (h : (((4 : Int) ≤ x3 → (P x2 M)) ∧ (x3 < (4 : Int) → ((0 ≤ x3 ∧ x3 < 6) ∧ (((q_nm M 100 x3) = 0 → (q_At q_m166 (q_WP q_Pr d) P 52 [(0, .inr (.inr 66)), (2, .inl x2), (3, .inl (w32 (x3 + 1)))] [] M c s)) ∧ (¬ (q_nm M 100 x3) = 0 → (q_At q_m166 (q_WP q_Pr d) P 52 [(0, .inr (.inr 66)), (2, .inl (w32 (x2 + 1))), (3, .inl (w32 (x3 + 1)))] [] M c s))))))) : q_At q_m166 (q_WP q_Pr d) P 52 [(0, .inr (.inr 66)), (2, .inl x2), (3, .inl x3)] [] M c s := by
  refine s_166_52 ?_
  rw [lk66 hl, lr66_43 hl, ll100 hl, lk100 hl]
  refine ⟨?_, ?_⟩
  · replace h := h.1
    intro g
    replace h := h g
    exact h
  · replace h := h.2
    intro g
    replace h := h g
    refine ⟨rfl, ?_⟩
    refine ⟨⟨Or.inr rfl, h.1⟩, ?_⟩
    replace h := h.2
    refine ⟨?_, ?_⟩
    · replace h := h.1
      intro g
      replace h := h g
      exact h
    · replace h := h.2
      intro g
      replace h := h g
      exact h
theorem t_167_0 {d : Nat} {P : Int → qM → Prop} {x1 : Int} {M : qM} {c s : Nat} (hl : q_lay M) (h : ((0 ≤ (w32 ((10500 : Int) + (q_nm M 66 50))) ∧ (w32 ((10500 : Int) + (q_nm M 66 50))) < 12600) ∧ (∀ M1 : qM, M1 = q_wn M 106 (w32 ((10500 : Int) + (q_nm M 66 50))) x1 → q_lay M1 → (∀ M2 : qM, M2 = q_wn M1 66 50 (w32 ((q_nm M1 66 50) + (1 : Int))) → q_lay M2 → (P (0 : Int) M2))))) : q_At q_m167 (q_WP q_Pr d) P 0 [(0, .inr (.inr 66)), (1, .inl x1)] [] M c s := by
  refine s_167_0 ?_
  rw [lk66 hl, lr66_49 hl, ll106 hl, lk106 hl]
  refine ⟨rfl, ?_⟩
  refine ⟨rfl, ?_⟩
  refine ⟨⟨⟨by decide, rfl⟩, h.1⟩, ?_⟩
  replace h := h.2
  intro M1
  have hlM1 : q_lay M1 := q_lay_wn hl
  replace h := h M1 rfl hlM1
  rw [lk66 hlM1]
  refine ⟨rfl, ?_⟩
  refine ⟨rfl, ?_⟩
  intro M2
  have hlM2 : q_lay M2 := q_lay_wn hlM1
  replace h := h M2 rfl hlM2
  exact h
theorem t_168_0 {d : Nat} {P : Int → qM → Prop} {x1 x2 : Int} {M : qM} {c s : Nat} (hl : q_lay M) (h : ((¬ (q_nm M 66 53) = (6 : Int) → (∀ M1 : qM, M1 = q_wn M 66 53 (w32 ((q_nm M 66 53) + (1 : Int))) → q_lay M1 → ((0 ≤ (q_nm M1 66 52) ∧ (q_nm M1 66 52) < 2200) ∧ (∀ M2 : qM, M2 = q_wn M1 107 (q_nm M1 66 52) x1 → q_lay M2 → (∀ M3 : qM, M3 = q_wn M2 66 52 (w32 ((q_nm M2 66 52) + (1 : Int))) → q_lay M3 → (P (0 : Int) M3)))))) ∧ ((q_nm M 66 53) = (6 : Int) → q_WP q_Pr d 149 [.inr (.inr 66), .inl (4 : Int), .inl x2] M (fun v4 M5 => q_lay M5 ∧ (P (0 : Int) M5))))) : q_At q_m168 (q_WP q_Pr d) P 0 [(0, .inr (.inr 66)), (1, .inl x1), (2, .inl x2)] [] M c s := by
  refine s_168_0 ?_
  rw [lk66 hl]
  refine ⟨rfl, ?_⟩
  refine ⟨?_, ?_⟩
  · replace h := h.1
    intro g
    replace h := h g
    refine ⟨rfl, ?_⟩
    refine ⟨rfl, ?_⟩
    intro M1
    have hlM1 : q_lay M1 := q_lay_wn hl
    replace h := h M1 rfl hlM1
    rw [lk66 hlM1, lr66_51 hlM1, ll107 hlM1, lk107 hlM1]
    refine ⟨rfl, ?_⟩
    refine ⟨rfl, ?_⟩
    refine ⟨⟨⟨by decide, rfl⟩, h.1⟩, ?_⟩
    replace h := h.2
    intro M2
    have hlM2 : q_lay M2 := q_lay_wn hlM1
    replace h := h M2 rfl hlM2
    rw [lk66 hlM2]
    refine ⟨rfl, ?_⟩
    refine ⟨rfl, ?_⟩
    intro M3
    have hlM3 : q_lay M3 := q_lay_wn hlM2
    replace h := h M3 rfl hlM3
    exact h
  · replace h := h.2
    intro g
    replace h := h g
    refine ⟨rfl, ?_⟩
    refine q_WP_mono _ _ _ _ _ _ (fun v4 M5 hh => ?_) h
    obtain ⟨hlM5, h⟩ := hh
    exact h
theorem t_169_0 {d : Nat} {P : Int → qM → Prop} {x1 : Int} {M : qM} {c s : Nat} (hl : q_lay M) (h : (((q_nm M 66 52) ≤ 0 → (P (0 : Int) M)) ∧ (0 < (q_nm M 66 52) → ((0 ≤ (w32 ((q_nm M 66 52) - (1 : Int))) ∧ (w32 ((q_nm M 66 52) - (1 : Int))) < 2200) ∧ ((¬ (q_nm M 107 (w32 ((q_nm M 66 52) - (1 : Int)))) = x1 → (P (0 : Int) M)) ∧ ((q_nm M 107 (w32 ((q_nm M 66 52) - (1 : Int)))) = x1 → (P (1 : Int) M))))))) : q_At q_m169 (q_WP q_Pr d) P 0 [(0, .inr (.inr 66)), (1, .inl x1)] [] M c s := by
  refine s_169_0 ?_
  rw [lk66 hl, lr66_51 hl, ll107 hl, lk107 hl]
  refine ⟨rfl, ?_⟩
  refine ⟨?_, ?_⟩
  · replace h := h.1
    intro g
    replace h := h g
    refine ⟨⟨by decide, by decide⟩, ?_⟩
    exact h
  · replace h := h.2
    intro g
    replace h := h g
    refine ⟨rfl, ?_⟩
    refine ⟨rfl, ?_⟩
    refine ⟨⟨rfl, h.1⟩, ?_⟩
    replace h := h.2
    refine ⟨?_, ?_⟩
    · replace h := h.1
      intro g
      replace h := h g
      refine ⟨⟨by decide, by decide⟩, ?_⟩
      exact h
    · replace h := h.2
      intro g
      replace h := h g
      refine ⟨⟨by decide, by decide⟩, ?_⟩
      exact h
theorem t_170_0 {d : Nat} {P : Int → qM → Prop} {M : qM} {c s : Nat} (hl : q_lay M) (h : (∀ M1 : qM, M1 = q_wn M 66 52 (w32 ((q_nm M 66 52) - (1 : Int))) → q_lay M1 → ((0 ≤ (q_nm M1 66 52) ∧ (q_nm M1 66 52) < 2200) ∧ q_WP q_Pr d 167 [.inr (.inr 66), .inl (q_nm M1 107 (q_nm M1 66 52))] M1 (fun v2 M3 => q_lay M3 ∧ (P (0 : Int) M3))))) : q_At q_m170 (q_WP q_Pr d) P 0 [(0, .inr (.inr 66))] [] M c s := by
  refine s_170_0 ?_
  rw [lk66 hl]
  refine ⟨rfl, ?_⟩
  refine ⟨rfl, ?_⟩
  intro M1
  have hlM1 : q_lay M1 := q_lay_wn hl
  replace h := h M1 rfl hlM1
  rw [lk66 hlM1, lr66_51 hlM1, ll107 hlM1, lk107 hlM1]
  refine ⟨rfl, ?_⟩
  refine ⟨rfl, ?_⟩
  refine ⟨⟨rfl, h.1⟩, ?_⟩
  replace h := h.2
  refine ⟨rfl, ?_⟩
  refine q_WP_mono _ _ _ _ _ _ (fun v2 M3 hh => ?_) h
  obtain ⟨hlM3, h⟩ := hh
  exact h
theorem t_172_0 {d : Nat} {P : Int → qM → Prop} {M : qM} {c s : Nat} (hl : q_lay M) (h : (q_At q_m172 (q_WP q_Pr d) P 7 [(0, .inr (.inr 66)), (1, .inl (w32 ((q_nm M 66 52) - (1 : Int))))] [] M c s)) : q_At q_m172 (q_WP q_Pr d) P 0 [(0, .inr (.inr 66))] [] M c s := by
  refine s_172_0 ?_
  rw [lk66 hl]
  refine ⟨rfl, ?_⟩
  exact h
theorem t_172_7 {d : Nat} {P : Int → qM → Prop} {x1 : Int} {M : qM} {c s : Nat} (hl : q_lay M) (h : ((x1 < (q_nm M 66 54) → ((x1 < (q_nm M 66 54) → (P (-1 : Int) M)) ∧ ((q_nm M 66 54) ≤ x1 → ((0 ≤ x1 ∧ x1 < 2200) ∧ (P (q_nm M 107 x1) M))))) ∧ ((q_nm M 66 54) ≤ x1 → ((0 ≤ x1 ∧ x1 < 2200) ∧ ((20 ≤ (q_nm M 107 x1) ∧ (q_nm M 107 x1) ≤ 24 → ((x1 < (q_nm M 66 54) → (P (-1 : Int) M)) ∧ ((q_nm M 66 54) ≤ x1 → ((0 ≤ x1 ∧ x1 < 2200) ∧ (P (q_nm M 107 x1) M))))) ∧ (¬ (20 ≤ (q_nm M 107 x1) ∧ (q_nm M 107 x1) ≤ 24) → (q_At q_m172 (q_WP q_Pr (d + 1)) P 7 [(0, .inr (.inr 66)), (1, .inl (w32 (x1 + (-1))))] [] M c s))))))) : q_At q_m172 (q_WP q_Pr (d + 1)) P 7 [(0, .inr (.inr 66)), (1, .inl x1)] [] M c s := by
  refine s_172_7 ?_
  rw [lk66 hl, lr66_51 hl, ll107 hl, lk107 hl]
  refine ⟨rfl, ?_⟩
  refine ⟨?_, ?_⟩
  · replace h := h.1
    intro g
    replace h := h g
    refine ⟨rfl, ?_⟩
    refine ⟨?_, ?_⟩
    · replace h := h.1
      intro g
      replace h := h g
      exact h
    · replace h := h.2
      intro g
      replace h := h g
      refine ⟨rfl, ?_⟩
      refine ⟨⟨rfl, h.1⟩, ?_⟩
      replace h := h.2
      exact h
  · replace h := h.2
    intro g
    replace h := h g
    refine ⟨rfl, ?_⟩
    refine ⟨⟨rfl, h.1⟩, ?_⟩
    replace h := h.2
    refine ⟨rfl, ?_⟩
    refine p_171 (fun g => ?_) (fun g => ?_)
    · replace h := h.1 g
      rw [lk66 hl, lr66_51 hl, ll107 hl, lk107 hl]
      refine ⟨fun _ => ?_, fun g => absurd g (by decide)⟩
      refine ⟨rfl, ?_⟩
      refine ⟨?_, ?_⟩
      · replace h := h.1
        intro g
        replace h := h g
        exact h
      · replace h := h.2
        intro g
        replace h := h g
        refine ⟨rfl, ?_⟩
        refine ⟨⟨rfl, h.1⟩, ?_⟩
        replace h := h.2
        exact h
    · replace h := h.2 g
      rw [lk66 hl, lr66_51 hl, ll107 hl, lk107 hl]
      refine ⟨fun g => absurd g (by decide), fun _ => ?_⟩
      exact h
theorem t_173_0 {d : Nat} {P : Int → qM → Prop} {M : qM} {c s : Nat} (hl : q_lay M) (h : (((q_nm M 66 52) ≤ (q_nm M 66 54) → (P (0 : Int) M)) ∧ ((q_nm M 66 54) < (q_nm M 66 52) → ((0 ≤ (w32 ((q_nm M 66 52) - (1 : Int))) ∧ (w32 ((q_nm M 66 52) - (1 : Int))) < 2200) ∧ ((20 ≤ (q_nm M 107 (w32 ((q_nm M 66 52) - (1 : Int)))) ∧ (q_nm M 107 (w32 ((q_nm M 66 52) - (1 : Int)))) ≤ 24 → (P (0 : Int) M)) ∧ (¬ (20 ≤ (q_nm M 107 (w32 ((q_nm M 66 52) - (1 : Int)))) ∧ (q_nm M 107 (w32 ((q_nm M 66 52) - (1 : Int)))) ≤ 24) → q_WP q_Pr (d + 1) 170 [.inr (.inr 66)] M (fun v3 M4 => q_lay M4 ∧ (q_At q_m173 (q_WP q_Pr (d + 1)) P 0 [(0, .inr (.inr 66))] [] M4 c s)))))))) : q_At q_m173 (q_WP q_Pr (d + 1)) P 0 [(0, .inr (.inr 66))] [] M c s := by
  refine s_173_0 ?_
  rw [lk66 hl, lr66_51 hl, ll107 hl, lk107 hl]
  refine ⟨rfl, ?_⟩
  refine ⟨rfl, ?_⟩
  refine ⟨?_, ?_⟩
  · replace h := h.1
    intro g
    replace h := h g
    exact h
  · replace h := h.2
    intro g
    replace h := h g
    refine ⟨rfl, ?_⟩
    refine ⟨rfl, ?_⟩
    refine ⟨⟨rfl, h.1⟩, ?_⟩
    replace h := h.2
    refine ⟨rfl, ?_⟩
    refine p_171 (fun g => ?_) (fun g => ?_)
    · replace h := h.1 g
      rw [lk66 hl]
      refine ⟨fun _ => ?_, fun g => absurd g (by decide)⟩
      exact h
    · replace h := h.2 g
      rw [lk66 hl]
      refine ⟨fun g => absurd g (by decide), fun _ => ?_⟩
      refine ⟨rfl, ?_⟩
      refine q_WP_mono _ _ _ _ _ _ (fun v3 M4 hh => ?_) h
      obtain ⟨hlM4, h⟩ := hh
      exact h
theorem t_174_0 {d : Nat} {P : Int → qM → Prop} {M : qM} {c s : Nat} (hl : q_lay M) (h : (q_At q_m174 (q_WP q_Pr d) P 2 [(0, .inr (.inr 66)), (1, .inl (1 : Int))] [] M c s)) : q_At q_m174 (q_WP q_Pr d) P 0 [(0, .inr (.inr 66))] [] M c s := by
  refine s_174_0 ?_
  exact h
theorem t_174_2 {d : Nat} {P : Int → qM → Prop} {x1 : Int} {M : qM} {c s : Nat} (hl : q_lay M) (h : ((x1 = 0 → (q_At q_m174 (q_WP q_Pr d) P 146 [(0, .inr (.inr 66))] [] M c s)) ∧ (¬ x1 = 0 → ((¬ (q_nm M 66 5) = 0 → (q_At q_m174 (q_WP q_Pr d) P 146 [(0, .inr (.inr 66))] [] M c s)) ∧ ((q_nm M 66 5) = 0 → q_WP q_Pr d 152 [.inr (.inr 66)] M (fun v1 M2 => q_lay M2 ∧ ((¬ v1 = (40 : Int) → q_WP q_Pr d 153 [.inr (.inr 66), .inr (.inr 90)] M2 (fun v3 M4 => q_lay M4 ∧ ((¬ v3 = 0 → q_WP q_Pr d 154 [.inr (.inr 66), .inr (.inr 90)] M4 (fun v5 M6 => q_lay M6 ∧ ((¬ v5 = 0 → (q_At q_m174 (q_WP q_Pr d) P 90 [(0, .inr (.inr 66)), (1, .inl x1), (3, .inl v5)] [] M6 c s)) ∧ (v5 = 0 → q_WP q_Pr d 155 [.inr (.inr 66), .inr (.inr 91)] M6 (fun v7 M8 => q_lay M8 ∧ (q_At q_m174 (q_WP q_Pr d) P 90 [(0, .inr (.inr 66)), (1, .inl x1), (3, .inl v5)] [] M8 c s)))))) ∧ (v3 = 0 → q_WP q_Pr d 153 [.inr (.inr 66), .inr (.inr 91)] M4 (fun v9 M10 => q_lay M10 ∧ ((v9 = 0 → (q_At q_m174 (q_WP q_Pr d) P 143 [(0, .inr (.inr 66)), (1, .inl (0 : Int))] [] M10 c s)) ∧ (¬ v9 = 0 → q_WP q_Pr d 154 [.inr (.inr 66), .inr (.inr 90)] M10 (fun v11 M12 => q_lay M12 ∧ ((¬ v11 = 0 → (q_At q_m174 (q_WP q_Pr d) P 90 [(0, .inr (.inr 66)), (1, .inl x1), (3, .inl v11)] [] M12 c s)) ∧ (v11 = 0 → q_WP q_Pr d 155 [.inr (.inr 66), .inr (.inr 91)] M12 (fun v13 M14 => q_lay M14 ∧ (q_At q_m174 (q_WP q_Pr d) P 90 [(0, .inr (.inr 66)), (1, .inl x1), (3, .inl v11)] [] M14 c s)))))))))))) ∧ (v1 = (40 : Int) → q_WP q_Pr d 168 [.inr (.inr 66), .inl (20 : Int), .inl (q_nm M2 66 2)] M2 (fun v15 M16 => q_lay M16 ∧ (∀ M17 : qM, M17 = q_wn M16 66 2 (w32 ((q_nm M16 66 2) + (1 : Int))) → q_lay M17 → (q_At q_m174 (q_WP q_Pr d) P 143 [(0, .inr (.inr 66)), (1, .inl x1)] [] M17 c s))))))))))) : q_At q_m174 (q_WP q_Pr d) P 2 [(0, .inr (.inr 66)), (1, .inl x1)] [] M c s := by
  refine s_174_2 ?_
  rw [lk66 hl]
  refine ⟨?_, ?_⟩
  · replace h := h.1
    intro g
    replace h := h g
    exact h
  · replace h := h.2
    intro g
    replace h := h g
    refine ⟨rfl, ?_⟩
    refine ⟨?_, ?_⟩
    · replace h := h.1
      intro g
      replace h := h g
      exact h
    · replace h := h.2
      intro g
      replace h := h g
      refine ⟨rfl, ?_⟩
      refine q_WP_mono _ _ _ _ _ _ (fun v1 M2 hh => ?_) h
      obtain ⟨hlM2, h⟩ := hh
      rw [lk66 hlM2, lr66_31 hlM2]
      refine ⟨?_, ?_⟩
      · replace h := h.1
        intro g
        replace h := h g
        refine ⟨rfl, ?_⟩
        refine ⟨rfl, ?_⟩
        refine q_WP_mono _ _ _ _ _ _ (fun v3 M4 hh => ?_) h
        obtain ⟨hlM4, h⟩ := hh
        rw [lk66 hlM4, lr66_31 hlM4, lr66_32 hlM4]
        refine ⟨?_, ?_⟩
        · replace h := h.1
          intro g
          replace h := h g
          refine ⟨rfl, ?_⟩
          refine ⟨rfl, ?_⟩
          refine q_WP_mono _ _ _ _ _ _ (fun v5 M6 hh => ?_) h
          obtain ⟨hlM6, h⟩ := hh
          rw [lk66 hlM6, lr66_32 hlM6]
          refine ⟨?_, ?_⟩
          · replace h := h.1
            intro g
            replace h := h g
            exact h
          · replace h := h.2
            intro g
            replace h := h g
            refine ⟨rfl, ?_⟩
            refine ⟨rfl, ?_⟩
            refine q_WP_mono _ _ _ _ _ _ (fun v7 M8 hh => ?_) h
            obtain ⟨hlM8, h⟩ := hh
            exact h
        · replace h := h.2
          intro g
          replace h := h g
          refine ⟨rfl, ?_⟩
          refine ⟨rfl, ?_⟩
          refine q_WP_mono _ _ _ _ _ _ (fun v9 M10 hh => ?_) h
          obtain ⟨hlM10, h⟩ := hh
          rw [lk66 hlM10, lr66_31 hlM10]
          refine ⟨?_, ?_⟩
          · replace h := h.1
            intro g
            replace h := h g
            exact h
          · replace h := h.2
            intro g
            replace h := h g
            refine ⟨rfl, ?_⟩
            refine ⟨rfl, ?_⟩
            refine q_WP_mono _ _ _ _ _ _ (fun v11 M12 hh => ?_) h
            obtain ⟨hlM12, h⟩ := hh
            rw [lk66 hlM12, lr66_32 hlM12]
            refine ⟨?_, ?_⟩
            · replace h := h.1
              intro g
              replace h := h g
              exact h
            · replace h := h.2
              intro g
              replace h := h g
              refine ⟨rfl, ?_⟩
              refine ⟨rfl, ?_⟩
              refine q_WP_mono _ _ _ _ _ _ (fun v13 M14 hh => ?_) h
              obtain ⟨hlM14, h⟩ := hh
              exact h
      · replace h := h.2
        intro g
        replace h := h g
        refine ⟨rfl, ?_⟩
        refine ⟨rfl, ?_⟩
        refine q_WP_mono _ _ _ _ _ _ (fun v15 M16 hh => ?_) h
        obtain ⟨hlM16, h⟩ := hh
        rw [lk66 hlM16]
        refine ⟨rfl, ?_⟩
        refine ⟨rfl, ?_⟩
        intro M17
        have hlM17 : q_lay M17 := q_lay_wn hlM16
        replace h := h M17 rfl hlM17
        exact h
theorem t_174_90 {d : Nat} {P : Int → qM → Prop} {x1 x3 : Int} {M : qM} {c s : Nat} (hl : q_lay M) (h : q_WP q_Pr d 152 [.inr (.inr 66)] M (fun v1 M2 => q_lay M2 ∧ ((¬ v1 = (40 : Int) → (q_At q_m174 (q_WP q_Pr d) P 107 [(0, .inr (.inr 66)), (1, .inl x1), (3, .inl x3)] [.inl (-1 : Int)] M2 c s)) ∧ (v1 = (40 : Int) → (q_At q_m174 (q_WP q_Pr d) P 107 [(0, .inr (.inr 66)), (1, .inl x1), (3, .inl x3)] [.inl (q_nm M2 66 2)] M2 c s))))) : q_At q_m174 (q_WP q_Pr d) P 90 [(0, .inr (.inr 66)), (1, .inl x1), (3, .inl x3)] [] M c s := by
  refine s_174_90 ?_
  rw [lk66 hl]
  refine ⟨rfl, ?_⟩
  refine q_WP_mono _ _ _ _ _ _ (fun v1 M2 hh => ?_) h
  obtain ⟨hlM2, h⟩ := hh
  rw [lk66 hlM2]
  refine ⟨?_, ?_⟩
  · replace h := h.1
    intro g
    replace h := h g
    exact h
  · replace h := h.2
    intro g
    replace h := h g
    refine ⟨rfl, ?_⟩
    exact h
theorem t_174_107 {d : Nat} {P : Int → qM → Prop} {x1 x3 y0 : Int} {M : qM} {c s : Nat} (hl : q_lay M) (h : ((y0 = (-1 : Int) → (q_At q_m174 (q_WP q_Pr d) P 132 [(0, .inr (.inr 66)), (1, .inl x1)] [] M c s)) ∧ (¬ y0 = (-1 : Int) → ((x3 = 0 → q_WP q_Pr d 168 [.inr (.inr 66), .inl (22 : Int), .inl y0] M (fun v1 M2 => q_lay M2 ∧ (q_At q_m174 (q_WP q_Pr d) P 132 [(0, .inr (.inr 66)), (1, .inl x1)] [] M2 c s))) ∧ (¬ x3 = 0 → q_WP q_Pr d 168 [.inr (.inr 66), .inl (21 : Int), .inl y0] M (fun v3 M4 => q_lay M4 ∧ (q_At q_m174 (q_WP q_Pr d) P 132 [(0, .inr (.inr 66)), (1, .inl x1)] [] M4 c s))))))) : q_At q_m174 (q_WP q_Pr d) P 107 [(0, .inr (.inr 66)), (1, .inl x1), (3, .inl x3)] [.inl y0] M c s := by
  refine s_174_107 ?_
  rw [lk66 hl]
  refine ⟨?_, ?_⟩
  · replace h := h.1
    intro g
    replace h := h g
    exact h
  · replace h := h.2
    intro g
    replace h := h g
    refine ⟨?_, ?_⟩
    · replace h := h.1
      intro g
      replace h := h g
      refine ⟨rfl, ?_⟩
      refine q_WP_mono _ _ _ _ _ _ (fun v1 M2 hh => ?_) h
      obtain ⟨hlM2, h⟩ := hh
      exact h
    · replace h := h.2
      intro g
      replace h := h g
      refine ⟨rfl, ?_⟩
      refine q_WP_mono _ _ _ _ _ _ (fun v3 M4 hh => ?_) h
      obtain ⟨hlM4, h⟩ := hh
      exact h
theorem t_174_132 {d : Nat} {P : Int → qM → Prop} {x1 : Int} {M : qM} {c s : Nat} (hl : q_lay M) (h : q_WP q_Pr d 157 [.inr (.inr 66), .inl (40 : Int)] M (fun v1 M2 => q_lay M2 ∧ (q_At q_m174 (q_WP q_Pr d) P 143 [(0, .inr (.inr 66)), (1, .inl x1)] [] M2 c s))) : q_At q_m174 (q_WP q_Pr d) P 132 [(0, .inr (.inr 66)), (1, .inl x1)] [] M c s := by
  refine s_174_132 ?_
  rw [lk66 hl]
  refine ⟨rfl, ?_⟩
  refine q_WP_mono _ _ _ _ _ _ (fun v1 M2 hh => ?_) h
  obtain ⟨hlM2, h⟩ := hh
  exact h
theorem t_174_143 {d : Nat} {P : Int → qM → Prop} {x1 : Int} {M : qM} {c s : Nat} (hl : q_lay M) (h : (q_At q_m174 (q_WP q_Pr d) P 2 [(0, .inr (.inr 66)), (1, .inl x1)] [] M c s)) : q_At q_m174 (q_WP q_Pr d) P 143 [(0, .inr (.inr 66)), (1, .inl x1)] [] M c s := by
  refine s_174_143 ?_
  exact h
theorem t_174_146 {d : Nat} {P : Int → qM → Prop} {M : qM} {c s : Nat} (hl : q_lay M) (h : (((q_nm M 66 5) = 0 → q_WP q_Pr d 154 [.inr (.inr 66), .inr (.inr 83)] M (fun v1 M2 => q_lay M2 ∧ ((v1 = 0 → q_WP q_Pr d 154 [.inr (.inr 66), .inr (.inr 84)] M2 (fun v3 M4 => q_lay M4 ∧ ((v3 = 0 → q_WP q_Pr d 154 [.inr (.inr 66), .inr (.inr 85)] M4 (fun v5 M6 => q_lay M6 ∧ ((v5 = 0 → q_WP q_Pr d 154 [.inr (.inr 66), .inr (.inr 86)] M6 (fun v7 M8 => q_lay M8 ∧ ((v7 = 0 → q_WP q_Pr d 154 [.inr (.inr 66), .inr (.inr 87)] M8 (fun v9 M10 => q_lay M10 ∧ ((v9 = 0 → q_WP q_Pr d 154 [.inr (.inr 66), .inr (.inr 88)] M10 (fun v11 M12 => q_lay M12 ∧ ((v11 = 0 → q_WP q_Pr d 154 [.inr (.inr 66), .inr (.inr 89)] M12 (fun v13 M14 => q_lay M14 ∧ ((v13 = 0 → (q_At q_m174 (q_WP q_Pr d) P 267 [(0, .inr (.inr 66))] [.inl (-1 : Int)] M14 c s)) ∧ (¬ v13 = 0 → (q_At q_m174 (q_WP q_Pr d) P 267 [(0, .inr (.inr 66))] [.inl (30 : Int)] M14 c s))))) ∧ (¬ v11 = 0 → (q_At q_m174 (q_WP q_Pr d) P 267 [(0, .inr (.inr 66))] [.inl (19 : Int)] M12 c s))))) ∧ (¬ v9 = 0 → (q_At q_m174 (q_WP q_Pr d) P 267 [(0, .inr (.inr 66))] [.inl (18 : Int)] M10 c s))))) ∧ (¬ v7 = 0 → (q_At q_m174 (q_WP q_Pr d) P 267 [(0, .inr (.inr 66))] [.inl (10 : Int)] M8 c s))))) ∧ (¬ v5 = 0 → (q_At q_m174 (q_WP q_Pr d) P 267 [(0, .inr (.inr 66))] [.inl (9 : Int)] M6 c s))))) ∧ (¬ v3 = 0 → (q_At q_m174 (q_WP q_Pr d) P 267 [(0, .inr (.inr 66))] [.inl (8 : Int)] M4 c s))))) ∧ (¬ v1 = 0 → (q_At q_m174 (q_WP q_Pr d) P 267 [(0, .inr (.inr 66))] [.inl (7 : Int)] M2 c s))))) ∧ (¬ (q_nm M 66 5) = 0 → (P (0 : Int) M)))) : q_At q_m174 (q_WP q_Pr d) P 146 [(0, .inr (.inr 66))] [] M c s := by
  refine s_174_146 ?_
  rw [lk66 hl, lr66_24 hl]
  refine ⟨rfl, ?_⟩
  refine ⟨?_, ?_⟩
  · replace h := h.1
    intro g
    replace h := h g
    refine ⟨rfl, ?_⟩
    refine ⟨rfl, ?_⟩
    refine q_WP_mono _ _ _ _ _ _ (fun v1 M2 hh => ?_) h
    obtain ⟨hlM2, h⟩ := hh
    rw [lk66 hlM2, lr66_25 hlM2]
    refine ⟨?_, ?_⟩
    · replace h := h.1
      intro g
      replace h := h g
      refine ⟨rfl, ?_⟩
      refine ⟨rfl, ?_⟩
      refine q_WP_mono _ _ _ _ _ _ (fun v3 M4 hh => ?_) h
      obtain ⟨hlM4, h⟩ := hh
      rw [lk66 hlM4, lr66_26 hlM4]
      refine ⟨?_, ?_⟩
      · replace h := h.1
        intro g
        replace h := h g
        refine ⟨rfl, ?_⟩
        refine ⟨rfl, ?_⟩
        refine q_WP_mono _ _ _ _ _ _ (fun v5 M6 hh => ?_) h
        obtain ⟨hlM6, h⟩ := hh
        rw [lk66 hlM6, lr66_27 hlM6]
        refine ⟨?_, ?_⟩
        · replace h := h.1
          intro g
          replace h := h g
          refine ⟨rfl, ?_⟩
          refine ⟨rfl, ?_⟩
          refine q_WP_mono _ _ _ _ _ _ (fun v7 M8 hh => ?_) h
          obtain ⟨hlM8, h⟩ := hh
          rw [lk66 hlM8, lr66_28 hlM8]
          refine ⟨?_, ?_⟩
          · replace h := h.1
            intro g
            replace h := h g
            refine ⟨rfl, ?_⟩
            refine ⟨rfl, ?_⟩
            refine q_WP_mono _ _ _ _ _ _ (fun v9 M10 hh => ?_) h
            obtain ⟨hlM10, h⟩ := hh
            rw [lk66 hlM10, lr66_29 hlM10]
            refine ⟨?_, ?_⟩
            · replace h := h.1
              intro g
              replace h := h g
              refine ⟨rfl, ?_⟩
              refine ⟨rfl, ?_⟩
              refine q_WP_mono _ _ _ _ _ _ (fun v11 M12 hh => ?_) h
              obtain ⟨hlM12, h⟩ := hh
              rw [lk66 hlM12, lr66_30 hlM12]
              refine ⟨?_, ?_⟩
              · replace h := h.1
                intro g
                replace h := h g
                refine ⟨rfl, ?_⟩
                refine ⟨rfl, ?_⟩
                refine q_WP_mono _ _ _ _ _ _ (fun v13 M14 hh => ?_) h
                obtain ⟨hlM14, h⟩ := hh
                refine ⟨?_, ?_⟩
                · replace h := h.1
                  intro g
                  replace h := h g
                  exact h
                · replace h := h.2
                  intro g
                  replace h := h g
                  exact h
              · replace h := h.2
                intro g
                replace h := h g
                exact h
            · replace h := h.2
              intro g
              replace h := h g
              exact h
          · replace h := h.2
            intro g
            replace h := h g
            exact h
        · replace h := h.2
          intro g
          replace h := h g
          exact h
      · replace h := h.2
        intro g
        replace h := h g
        exact h
    · replace h := h.2
      intro g
      replace h := h g
      exact h
  · replace h := h.2
    intro g
    replace h := h g
    exact h
theorem t_174_267 {d : Nat} {P : Int → qM → Prop} {y0 : Int} {M : qM} {c s : Nat} (hl : q_lay M) (h : ((y0 = (-1 : Int) → q_WP q_Pr d 158 [.inr (.inr 66), .inl (0 : Int), .inl (9999 : Int)] M (fun v1 M2 => q_lay M2 ∧ (q_At q_m174 (q_WP q_Pr d) P 290 [] [.inl (w32 ((1000 : Int) + v1)), .inr (.inr 66)] M2 c s))) ∧ (¬ y0 = (-1 : Int) → (q_At q_m174 (q_WP q_Pr d) P 290 [] [.inl y0, .inr (.inr 66)] M c s)))) : q_At q_m174 (q_WP q_Pr d) P 267 [(0, .inr (.inr 66))] [.inl y0] M c s := by
  refine s_174_267 ?_
  rw [lk66 hl]
  refine ⟨?_, ?_⟩
  · replace h := h.1
    intro g
    replace h := h g
    refine ⟨rfl, ?_⟩
    refine q_WP_mono _ _ _ _ _ _ (fun v1 M2 hh => ?_) h
    obtain ⟨hlM2, h⟩ := hh
    exact h
  · replace h := h.2
    intro g
    replace h := h g
    exact h
theorem t_174_290 {d : Nat} {P : Int → qM → Prop} {y0 y1 : Int} {M : qM} {c s : Nat} (hl : q_lay M) (h : ((q_kd M y1 = 11) ∧ q_WP q_Pr d 167 [.inr (.inr y1), .inl y0] M (fun v1 M2 => q_lay M2 ∧ (P (0 : Int) M2)))) : q_At q_m174 (q_WP q_Pr d) P 290 [] [.inl y0, .inr (.inr y1)] M c s := by
  refine s_174_290 ?_
  refine ⟨h.1, ?_⟩
  replace h := h.2
  refine q_WP_mono _ _ _ _ _ _ (fun v1 M2 hh => ?_) h
  obtain ⟨hlM2, h⟩ := hh
  exact h
theorem t_175_0 {d : Nat} {P : Int → qM → Prop} {M : qM} {c s : Nat} (hl : q_lay M) (h : ((¬ (q_nm M 66 5) = 0 → (q_At q_m175 (q_WP q_Pr d) P 118 [(0, .inr (.inr 66))] [] M c s)) ∧ ((q_nm M 66 5) = 0 → q_WP q_Pr d 152 [.inr (.inr 66)] M (fun v1 M2 => q_lay M2 ∧ ((¬ v1 = (41 : Int) → (q_At q_m175 (q_WP q_Pr d) P 118 [(0, .inr (.inr 66))] [] M2 c s)) ∧ (v1 = (41 : Int) → q_WP q_Pr d 172 [.inr (.inr 66)] M2 (fun v3 M4 => q_lay M4 ∧ ((v3 = (20 : Int) → (q_At q_m175 (q_WP q_Pr d) P 43 [(0, .inr (.inr 66))] [] M4 c s)) ∧ (¬ v3 = (20 : Int) → q_WP q_Pr d 172 [.inr (.inr 66)] M4 (fun v5 M6 => q_lay M6 ∧ ((v5 = (23 : Int) → (q_At q_m175 (q_WP q_Pr d) P 43 [(0, .inr (.inr 66))] [] M6 c s)) ∧ (¬ v5 = (23 : Int) → q_WP q_Pr d 172 [.inr (.inr 66)] M6 (fun v7 M8 => q_lay M8 ∧ ((¬ v7 = (24 : Int) → (q_At q_m175 (q_WP q_Pr d) P 118 [(0, .inr (.inr 66))] [] M8 c s)) ∧ (v7 = (24 : Int) → (q_At q_m175 (q_WP q_Pr d) P 43 [(0, .inr (.inr 66))] [] M8 c s)))))))))))))))) : q_At q_m175 (q_WP q_Pr d) P 0 [(0, .inr (.inr 66))] [] M c s := by
  refine s_175_0 ?_
  rw [lk66 hl]
  refine ⟨rfl, ?_⟩
  refine ⟨?_, ?_⟩
  · replace h := h.1
    intro g
    replace h := h g
    exact h
  · replace h := h.2
    intro g
    replace h := h g
    refine ⟨rfl, ?_⟩
    refine q_WP_mono _ _ _ _ _ _ (fun v1 M2 hh => ?_) h
    obtain ⟨hlM2, h⟩ := hh
    rw [lk66 hlM2]
    refine ⟨?_, ?_⟩
    · replace h := h.1
      intro g
      replace h := h g
      exact h
    · replace h := h.2
      intro g
      replace h := h g
      refine ⟨rfl, ?_⟩
      refine q_WP_mono _ _ _ _ _ _ (fun v3 M4 hh => ?_) h
      obtain ⟨hlM4, h⟩ := hh
      rw [lk66 hlM4]
      refine ⟨?_, ?_⟩
      · replace h := h.1
        intro g
        replace h := h g
        exact h
      · replace h := h.2
        intro g
        replace h := h g
        refine ⟨rfl, ?_⟩
        refine q_WP_mono _ _ _ _ _ _ (fun v5 M6 hh => ?_) h
        obtain ⟨hlM6, h⟩ := hh
        rw [lk66 hlM6]
        refine ⟨?_, ?_⟩
        · replace h := h.1
          intro g
          replace h := h g
          exact h
        · replace h := h.2
          intro g
          replace h := h g
          refine ⟨rfl, ?_⟩
          refine q_WP_mono _ _ _ _ _ _ (fun v7 M8 hh => ?_) h
          obtain ⟨hlM8, h⟩ := hh
          refine ⟨?_, ?_⟩
          · replace h := h.1
            intro g
            replace h := h g
            exact h
          · replace h := h.2
            intro g
            replace h := h g
            exact h
theorem t_175_43 {d : Nat} {P : Int → qM → Prop} {M : qM} {c s : Nat} (hl : q_lay M) (h : (∀ M1 : qM, M1 = q_wn M 66 2 (w32 ((q_nm M 66 2) + (1 : Int))) → q_lay M1 → q_WP q_Pr d 173 [.inr (.inr 66)] M1 (fun v2 M3 => q_lay M3 ∧ (∀ M4 : qM, M4 = q_wn M3 66 52 (w32 ((q_nm M3 66 52) - (1 : Int))) → q_lay M4 → (∀ M5 : qM, M5 = q_wn M4 66 53 (w32 ((q_nm M4 66 53) - (1 : Int))) → q_lay M5 → ((0 ≤ (q_nm M5 66 52) ∧ (q_nm M5 66 52) < 2200) ∧ (((q_nm M5 107 (q_nm M5 66 52)) = (20 : Int) → (q_At q_m175 (q_WP q_Pr d) P 0 [(0, .inr (.inr 66))] [] M5 c s)) ∧ (¬ (q_nm M5 107 (q_nm M5 66 52)) = (20 : Int) → ((0 ≤ (q_nm M5 66 52) ∧ (q_nm M5 66 52) < 2200) ∧ ((¬ (q_nm M5 107 (q_nm M5 66 52)) = (23 : Int) → q_WP q_Pr d 167 [.inr (.inr 66), .inl (6 : Int)] M5 (fun v6 M7 => q_lay M7 ∧ (q_At q_m175 (q_WP q_Pr d) P 0 [(0, .inr (.inr 66))] [] M7 c s))) ∧ ((q_nm M5 107 (q_nm M5 66 52)) = (23 : Int) → q_WP q_Pr d 167 [.inr (.inr 66), .inl (5 : Int)] M5 (fun v8 M9 => q_lay M9 ∧ (q_At q_m175 (q_WP q_Pr d) P 0 [(0, .inr (.inr 66))] [] M9 c s))))))))))))) : q_At q_m175 (q_WP q_Pr d) P 43 [(0, .inr (.inr 66))] [] M c s := by
  refine s_175_43 ?_
  rw [lk66 hl]
  refine ⟨rfl, ?_⟩
  refine ⟨rfl, ?_⟩
  intro M1
  have hlM1 : q_lay M1 := q_lay_wn hl
  replace h := h M1 rfl hlM1
  rw [lk66 hlM1]
  refine ⟨rfl, ?_⟩
  refine q_WP_mono _ _ _ _ _ _ (fun v2 M3 hh => ?_) h
  obtain ⟨hlM3, h⟩ := hh
  rw [lk66 hlM3]
  refine ⟨rfl, ?_⟩
  refine ⟨rfl, ?_⟩
  intro M4
  have hlM4 : q_lay M4 := q_lay_wn hlM3
  replace h := h M4 rfl hlM4
  rw [lk66 hlM4]
  refine ⟨rfl, ?_⟩
  refine ⟨rfl, ?_⟩
  intro M5
  have hlM5 : q_lay M5 := q_lay_wn hlM4
  replace h := h M5 rfl hlM5
  rw [lk66 hlM5, lr66_51 hlM5, ll107 hlM5, lk107 hlM5]
  refine ⟨rfl, ?_⟩
  refine ⟨rfl, ?_⟩
  refine ⟨⟨rfl, h.1⟩, ?_⟩
  replace h := h.2
  refine ⟨?_, ?_⟩
  · replace h := h.1
    intro g
    replace h := h g
    exact h
  · replace h := h.2
    intro g
    replace h := h g
    refine ⟨rfl, ?_⟩
    refine ⟨rfl, ?_⟩
    refine ⟨⟨rfl, h.1⟩, ?_⟩
    replace h := h.2
    refine ⟨?_, ?_⟩
    · replace h := h.1
      intro g
      replace h := h g
      refine ⟨rfl, ?_⟩
      refine q_WP_mono _ _ _ _ _ _ (fun v6 M7 hh => ?_) h
      obtain ⟨hlM7, h⟩ := hh
      exact h
    · replace h := h.2
      intro g
      replace h := h g
      refine ⟨rfl, ?_⟩
      refine q_WP_mono _ _ _ _ _ _ (fun v8 M9 hh => ?_) h
      obtain ⟨hlM9, h⟩ := hh
      exact h
theorem t_175_118 {d : Nat} {P : Int → qM → Prop} {M : qM} {c s : Nat} (hl : q_lay M) (h : q_WP q_Pr d 156 [.inr (.inr 66), .inl (42 : Int)] M (fun v1 M2 => q_lay M2 ∧ ((¬ v1 = 0 → ((0 ≤ (w32 ((q_nm M2 66 2) - (1 : Int))) ∧ (w32 ((q_nm M2 66 2) - (1 : Int))) < 2100) ∧ ((¬ (q_nm M2 67 (w32 ((q_nm M2 66 2) - (1 : Int)))) = (42 : Int) → (q_At q_m175 (q_WP q_Pr d) P 158 [(0, .inr (.inr 66)), (1, .inl (4 : Int))] [] M2 c s)) ∧ ((q_nm M2 67 (w32 ((q_nm M2 66 2) - (1 : Int)))) = (42 : Int) → (q_At q_m175 (q_WP q_Pr d) P 158 [(0, .inr (.inr 66)), (1, .inl (3 : Int))] [] M2 c s))))) ∧ (v1 = 0 → q_WP q_Pr d 156 [.inr (.inr 66), .inl (47 : Int)] M2 (fun v3 M4 => q_lay M4 ∧ ((v3 = 0 → q_WP q_Pr d 156 [.inr (.inr 66), .inl (43 : Int)] M4 (fun v5 M6 => q_lay M6 ∧ ((¬ v5 = 0 → ((0 ≤ (w32 ((q_nm M6 66 2) - (1 : Int))) ∧ (w32 ((q_nm M6 66 2) - (1 : Int))) < 2100) ∧ ((¬ (q_nm M6 67 (w32 ((q_nm M6 66 2) - (1 : Int)))) = (43 : Int) → (q_At q_m175 (q_WP q_Pr d) P 243 [(0, .inr (.inr 66)), (1, .inl (2 : Int))] [] M6 c s)) ∧ ((q_nm M6 67 (w32 ((q_nm M6 66 2) - (1 : Int)))) = (43 : Int) → (q_At q_m175 (q_WP q_Pr d) P 243 [(0, .inr (.inr 66)), (1, .inl (1 : Int))] [] M6 c s))))) ∧ (v5 = 0 → q_WP q_Pr d 156 [.inr (.inr 66), .inl (45 : Int)] M6 (fun v7 M8 => q_lay M8 ∧ ((v7 = 0 → q_WP q_Pr d 172 [.inr (.inr 66)] M8 (fun v9 M10 => q_lay M10 ∧ ((v9 = (21 : Int) → q_WP q_Pr d 157 [.inr (.inr 66), .inl (44 : Int)] M10 (fun v11 M12 => q_lay M12 ∧ (((q_nm M12 66 5) = 0 → q_WP q_Pr d 173 [.inr (.inr 66)] M12 (fun v13 M14 => q_lay M14 ∧ ((0 ≤ (w32 ((q_nm M14 66 52) - (1 : Int))) ∧ (w32 ((q_nm M14 66 52) - (1 : Int))) < 2200) ∧ ((0 ≤ (w32 ((q_nm M14 66 52) - (1 : Int))) ∧ (w32 ((q_nm M14 66 52) - (1 : Int))) < 2200) ∧ (∀ M15 : qM, M15 = q_wn M14 107 (w32 ((q_nm M14 66 52) - (1 : Int))) (w32 ((q_nm M14 107 (w32 ((q_nm M14 66 52) - (1 : Int)))) + (2 : Int))) → q_lay M15 → (P (1 : Int) M15)))))) ∧ (¬ (q_nm M12 66 5) = 0 → (P (0 : Int) M12))))) ∧ (¬ v9 = (21 : Int) → q_WP q_Pr d 172 [.inr (.inr 66)] M10 (fun v16 M17 => q_lay M17 ∧ ((¬ v16 = (22 : Int) → q_WP q_Pr d 172 [.inr (.inr 66)] M17 (fun v18 M19 => q_lay M19 ∧ ((v18 = (-1 : Int) → (P (0 : Int) M19)) ∧ (¬ v18 = (-1 : Int) → ((¬ (q_nm M19 66 5) = 0 → (P (0 : Int) M19)) ∧ ((q_nm M19 66 5) = 0 → q_WP q_Pr d 149 [.inr (.inr 66), .inl (1 : Int), .inl (q_nm M19 66 2)] M19 (fun v20 M21 => q_lay M21 ∧ (P (0 : Int) M21)))))))) ∧ (v16 = (22 : Int) → q_WP q_Pr d 157 [.inr (.inr 66), .inl (44 : Int)] M17 (fun v22 M23 => q_lay M23 ∧ (((q_nm M23 66 5) = 0 → q_WP q_Pr d 173 [.inr (.inr 66)] M23 (fun v24 M25 => q_lay M25 ∧ ((0 ≤ (w32 ((q_nm M25 66 52) - (1 : Int))) ∧ (w32 ((q_nm M25 66 52) - (1 : Int))) < 2200) ∧ ((0 ≤ (w32 ((q_nm M25 66 52) - (1 : Int))) ∧ (w32 ((q_nm M25 66 52) - (1 : Int))) < 2200) ∧ (∀ M26 : qM, M26 = q_wn M25 107 (w32 ((q_nm M25 66 52) - (1 : Int))) (w32 ((q_nm M25 107 (w32 ((q_nm M25 66 52) - (1 : Int)))) + (2 : Int))) → q_lay M26 → (P (1 : Int) M26)))))) ∧ (¬ (q_nm M23 66 5) = 0 → (P (0 : Int) M23))))))))))) ∧ (¬ v7 = 0 → ((0 ≤ (w32 ((q_nm M8 66 2) - (1 : Int))) ∧ (w32 ((q_nm M8 66 2) - (1 : Int))) < 2100) ∧ ((¬ (q_nm M8 67 (w32 ((q_nm M8 66 2) - (1 : Int)))) = (43 : Int) → (q_At q_m175 (q_WP q_Pr d) P 243 [(0, .inr (.inr 66)), (1, .inl (2 : Int))] [] M8 c s)) ∧ ((q_nm M8 67 (w32 ((q_nm M8 66 2) - (1 : Int)))) = (43 : Int) → (q_At q_m175 (q_WP q_Pr d) P 243 [(0, .inr (.inr 66)), (1, .inl (1 : Int))] [] M8 c s))))))))))) ∧ (¬ v3 = 0 → ((0 ≤ (w32 ((q_nm M4 66 2) - (1 : Int))) ∧ (w32 ((q_nm M4 66 2) - (1 : Int))) < 2100) ∧ ((¬ (q_nm M4 67 (w32 ((q_nm M4 66 2) - (1 : Int)))) = (42 : Int) → (q_At q_m175 (q_WP q_Pr d) P 158 [(0, .inr (.inr 66)), (1, .inl (4 : Int))] [] M4 c s)) ∧ ((q_nm M4 67 (w32 ((q_nm M4 66 2) - (1 : Int)))) = (42 : Int) → (q_At q_m175 (q_WP q_Pr d) P 158 [(0, .inr (.inr 66)), (1, .inl (3 : Int))] [] M4 c s))))))))))) : q_At q_m175 (q_WP q_Pr d) P 118 [(0, .inr (.inr 66))] [] M c s := by
  refine s_175_118 ?_
  rw [lk66 hl]
  refine ⟨rfl, ?_⟩
  refine q_WP_mono _ _ _ _ _ _ (fun v1 M2 hh => ?_) h
  obtain ⟨hlM2, h⟩ := hh
  rw [lk66 hlM2, lr66_0 hlM2, ll67 hlM2, lk67 hlM2]
  refine ⟨?_, ?_⟩
  · replace h := h.1
    intro g
    replace h := h g
    refine ⟨rfl, ?_⟩
    refine ⟨rfl, ?_⟩
    refine ⟨⟨rfl, h.1⟩, ?_⟩
    replace h := h.2
    refine ⟨?_, ?_⟩
    · replace h := h.1
      intro g
      replace h := h g
      exact h
    · replace h := h.2
      intro g
      replace h := h g
      exact h
  · replace h := h.2
    intro g
    replace h := h g
    refine ⟨rfl, ?_⟩
    refine q_WP_mono _ _ _ _ _ _ (fun v3 M4 hh => ?_) h
    obtain ⟨hlM4, h⟩ := hh
    rw [lk66 hlM4, lr66_0 hlM4, ll67 hlM4, lk67 hlM4]
    refine ⟨?_, ?_⟩
    · replace h := h.1
      intro g
      replace h := h g
      refine ⟨rfl, ?_⟩
      refine q_WP_mono _ _ _ _ _ _ (fun v5 M6 hh => ?_) h
      obtain ⟨hlM6, h⟩ := hh
      rw [lk66 hlM6, lr66_0 hlM6, ll67 hlM6, lk67 hlM6]
      refine ⟨?_, ?_⟩
      · replace h := h.1
        intro g
        replace h := h g
        refine ⟨rfl, ?_⟩
        refine ⟨rfl, ?_⟩
        refine ⟨⟨rfl, h.1⟩, ?_⟩
        replace h := h.2
        refine ⟨?_, ?_⟩
        · replace h := h.1
          intro g
          replace h := h g
          exact h
        · replace h := h.2
          intro g
          replace h := h g
          exact h
      · replace h := h.2
        intro g
        replace h := h g
        refine ⟨rfl, ?_⟩
        refine q_WP_mono _ _ _ _ _ _ (fun v7 M8 hh => ?_) h
        obtain ⟨hlM8, h⟩ := hh
        rw [lk66 hlM8, lr66_0 hlM8, ll67 hlM8, lk67 hlM8]
        refine ⟨?_, ?_⟩
        · replace h := h.1
          intro g
          replace h := h g
          refine ⟨rfl, ?_⟩
          refine q_WP_mono _ _ _ _ _ _ (fun v9 M10 hh => ?_) h
          obtain ⟨hlM10, h⟩ := hh
          rw [lk66 hlM10]
          refine ⟨?_, ?_⟩
          · replace h := h.1
            intro g
            replace h := h g
            refine ⟨rfl, ?_⟩
            refine q_WP_mono _ _ _ _ _ _ (fun v11 M12 hh => ?_) h
            obtain ⟨hlM12, h⟩ := hh
            rw [lk66 hlM12]
            refine ⟨rfl, ?_⟩
            refine ⟨?_, ?_⟩
            · replace h := h.1
              intro g
              replace h := h g
              refine ⟨rfl, ?_⟩
              refine q_WP_mono _ _ _ _ _ _ (fun v13 M14 hh => ?_) h
              obtain ⟨hlM14, h⟩ := hh
              rw [lk66 hlM14, lr66_51 hlM14, ll107 hlM14, lk107 hlM14]
              refine ⟨rfl, ?_⟩
              refine ⟨rfl, ?_⟩
              refine ⟨⟨rfl, h.1⟩, ?_⟩
              replace h := h.2
              refine ⟨⟨⟨by decide, rfl⟩, h.1⟩, ?_⟩
              replace h := h.2
              intro M15
              have hlM15 : q_lay M15 := q_lay_wn hlM14
              replace h := h M15 rfl hlM15
              refine ⟨⟨by decide, by decide⟩, ?_⟩
              exact h
            · replace h := h.2
              intro g
              replace h := h g
              refine ⟨⟨by decide, by decide⟩, ?_⟩
              exact h
          · replace h := h.2
            intro g
            replace h := h g
            refine ⟨rfl, ?_⟩
            refine q_WP_mono _ _ _ _ _ _ (fun v16 M17 hh => ?_) h
            obtain ⟨hlM17, h⟩ := hh
            rw [lk66 hlM17]
            refine ⟨?_, ?_⟩
            · replace h := h.1
              intro g
              replace h := h g
              refine ⟨rfl, ?_⟩
              refine q_WP_mono _ _ _ _ _ _ (fun v18 M19 hh => ?_) h
              obtain ⟨hlM19, h⟩ := hh
              rw [lk66 hlM19]
              refine ⟨?_, ?_⟩
              · replace h := h.1
                intro g
                replace h := h g
                refine ⟨⟨by decide, by decide⟩, ?_⟩
                exact h
              · replace h := h.2
                intro g
                replace h := h g
                refine ⟨rfl, ?_⟩
                refine ⟨?_, ?_⟩
                · replace h := h.1
                  intro g
                  replace h := h g
                  refine ⟨⟨by decide, by decide⟩, ?_⟩
                  exact h
                · replace h := h.2
                  intro g
                  replace h := h g
                  refine ⟨rfl, ?_⟩
                  refine ⟨rfl, ?_⟩
                  refine q_WP_mono _ _ _ _ _ _ (fun v20 M21 hh => ?_) h
                  obtain ⟨hlM21, h⟩ := hh
                  refine ⟨⟨by decide, by decide⟩, ?_⟩
                  exact h
            · replace h := h.2
              intro g
              replace h := h g
              refine ⟨rfl, ?_⟩
              refine q_WP_mono _ _ _ _ _ _ (fun v22 M23 hh => ?_) h
              obtain ⟨hlM23, h⟩ := hh
              rw [lk66 hlM23]
              refine ⟨rfl, ?_⟩
              refine ⟨?_, ?_⟩
              · replace h := h.1
                intro g
                replace h := h g
                refine ⟨rfl, ?_⟩
                refine q_WP_mono _ _ _ _ _ _ (fun v24 M25 hh => ?_) h
                obtain ⟨hlM25, h⟩ := hh
                rw [lk66 hlM25, lr66_51 hlM25, ll107 hlM25, lk107 hlM25]
                refine ⟨rfl, ?_⟩
                refine ⟨rfl, ?_⟩
                refine ⟨⟨rfl, h.1⟩, ?_⟩
                replace h := h.2
                refine ⟨⟨⟨by decide, rfl⟩, h.1⟩, ?_⟩
                replace h := h.2
                intro M26
                have hlM26 : q_lay M26 := q_lay_wn hlM25
                replace h := h M26 rfl hlM26
                refine ⟨⟨by decide, by decide⟩, ?_⟩
                exact h
              · replace h := h.2
                intro g
                replace h := h g
                refine ⟨⟨by decide, by decide⟩, ?_⟩
                exact h
        · replace h := h.2
          intro g
          replace h := h g
          refine ⟨rfl, ?_⟩
          refine ⟨rfl, ?_⟩
          refine ⟨⟨rfl, h.1⟩, ?_⟩
          replace h := h.2
          refine ⟨?_, ?_⟩
          · replace h := h.1
            intro g
            replace h := h g
            exact h
          · replace h := h.2
            intro g
            replace h := h g
            exact h
    · replace h := h.2
      intro g
      replace h := h g
      refine ⟨rfl, ?_⟩
      refine ⟨rfl, ?_⟩
      refine ⟨⟨rfl, h.1⟩, ?_⟩
      replace h := h.2
      refine ⟨?_, ?_⟩
      · replace h := h.1
        intro g
        replace h := h g
        exact h
      · replace h := h.2
        intro g
        replace h := h g
        exact h
theorem t_175_158 {d : Nat} {P : Int → qM → Prop} {x1 : Int} {M : qM} {c s : Nat} (hl : q_lay M) (h : q_WP q_Pr d 169 [.inr (.inr 66), .inl (3 : Int)] M (fun v1 M2 => q_lay M2 ∧ ((¬ v1 = 0 → q_WP q_Pr d 170 [.inr (.inr 66)] M2 (fun v3 M4 => q_lay M4 ∧ (q_At q_m175 (q_WP q_Pr d) P 158 [(0, .inr (.inr 66)), (1, .inl x1)] [] M4 c s))) ∧ (v1 = 0 → q_WP q_Pr d 169 [.inr (.inr 66), .inl (4 : Int)] M2 (fun v5 M6 => q_lay M6 ∧ ((v5 = 0 → ((0 ≤ (q_nm M6 66 52) ∧ (q_nm M6 66 52) < 2200) ∧ (∀ M7 : qM, M7 = q_wn M6 107 (q_nm M6 66 52) x1 → q_lay M7 → (∀ M8 : qM, M8 = q_wn M7 66 52 (w32 ((q_nm M7 66 52) + (1 : Int))) → q_lay M8 → (P (1 : Int) M8))))) ∧ (¬ v5 = 0 → q_WP q_Pr d 170 [.inr (.inr 66)] M6 (fun v9 M10 => q_lay M10 ∧ (q_At q_m175 (q_WP q_Pr d) P 158 [(0, .inr (.inr 66)), (1, .inl x1)] [] M10 c s))))))))) : q_At q_m175 (q_WP q_Pr d) P 158 [(0, .inr (.inr 66)), (1, .inl x1)] [] M c s := by
  refine s_175_158 ?_
  rw [lk66 hl]
  refine ⟨rfl, ?_⟩
  refine q_WP_mono _ _ _ _ _ _ (fun v1 M2 hh => ?_) h
  obtain ⟨hlM2, h⟩ := hh
  rw [lk66 hlM2]
  refine ⟨?_, ?_⟩
  · replace h := h.1
    intro g
    replace h := h g
    refine ⟨rfl, ?_⟩
    refine q_WP_mono _ _ _ _ _ _ (fun v3 M4 hh => ?_) h
    obtain ⟨hlM4, h⟩ := hh
    exact h
  · replace h := h.2
    intro g
    replace h := h g
    refine ⟨rfl, ?_⟩
    refine q_WP_mono _ _ _ _ _ _ (fun v5 M6 hh => ?_) h
    obtain ⟨hlM6, h⟩ := hh
    rw [lk66 hlM6, lr66_51 hlM6, ll107 hlM6, lk107 hlM6]
    refine ⟨?_, ?_⟩
    · replace h := h.1
      intro g
      replace h := h g
      refine ⟨rfl, ?_⟩
      refine ⟨rfl, ?_⟩
      refine ⟨⟨⟨by decide, rfl⟩, h.1⟩, ?_⟩
      replace h := h.2
      intro M7
      have hlM7 : q_lay M7 := q_lay_wn hlM6
      replace h := h M7 rfl hlM7
      rw [lk66 hlM7]
      refine ⟨rfl, ?_⟩
      refine ⟨rfl, ?_⟩
      intro M8
      have hlM8 : q_lay M8 := q_lay_wn hlM7
      replace h := h M8 rfl hlM8
      refine ⟨⟨by decide, by decide⟩, ?_⟩
      exact h
    · replace h := h.2
      intro g
      replace h := h g
      refine ⟨rfl, ?_⟩
      refine q_WP_mono _ _ _ _ _ _ (fun v9 M10 hh => ?_) h
      obtain ⟨hlM10, h⟩ := hh
      exact h
theorem t_175_243 {d : Nat} {P : Int → qM → Prop} {x1 : Int} {M : qM} {c s : Nat} (hl : q_lay M) (h : q_WP q_Pr d 169 [.inr (.inr 66), .inl (3 : Int)] M (fun v1 M2 => q_lay M2 ∧ ((¬ v1 = 0 → q_WP q_Pr d 170 [.inr (.inr 66)] M2 (fun v3 M4 => q_lay M4 ∧ (q_At q_m175 (q_WP q_Pr d) P 243 [(0, .inr (.inr 66)), (1, .inl x1)] [] M4 c s))) ∧ (v1 = 0 → q_WP q_Pr d 169 [.inr (.inr 66), .inl (4 : Int)] M2 (fun v5 M6 => q_lay M6 ∧ ((¬ v5 = 0 → q_WP q_Pr d 170 [.inr (.inr 66)] M6 (fun v7 M8 => q_lay M8 ∧ (q_At q_m175 (q_WP q_Pr d) P 243 [(0, .inr (.inr 66)), (1, .inl x1)] [] M8 c s))) ∧ (v5 = 0 → q_WP q_Pr d 169 [.inr (.inr 66), .inl (1 : Int)] M6 (fun v9 M10 => q_lay M10 ∧ ((¬ v9 = 0 → q_WP q_Pr d 170 [.inr (.inr 66)] M10 (fun v11 M12 => q_lay M12 ∧ (q_At q_m175 (q_WP q_Pr d) P 243 [(0, .inr (.inr 66)), (1, .inl x1)] [] M12 c s))) ∧ (v9 = 0 → q_WP q_Pr d 169 [.inr (.inr 66), .inl (2 : Int)] M10 (fun v13 M14 => q_lay M14 ∧ ((v13 = 0 → ((0 ≤ (q_nm M14 66 52) ∧ (q_nm M14 66 52) < 2200) ∧ (∀ M15 : qM, M15 = q_wn M14 107 (q_nm M14 66 52) x1 → q_lay M15 → (∀ M16 : qM, M16 = q_wn M15 66 52 (w32 ((q_nm M15 66 52) + (1 : Int))) → q_lay M16 → (P (1 : Int) M16))))) ∧ (¬ v13 = 0 → q_WP q_Pr d 170 [.inr (.inr 66)] M14 (fun v17 M18 => q_lay M18 ∧ (q_At q_m175 (q_WP q_Pr d) P 243 [(0, .inr (.inr 66)), (1, .inl x1)] [] M18 c s))))))))))))))) : q_At q_m175 (q_WP q_Pr d) P 243 [(0, .inr (.inr 66)), (1, .inl x1)] [] M c s := by
  refine s_175_243 ?_
  rw [lk66 hl]
  refine ⟨rfl, ?_⟩
  refine q_WP_mono _ _ _ _ _ _ (fun v1 M2 hh => ?_) h
  obtain ⟨hlM2, h⟩ := hh
  rw [lk66 hlM2]
  refine ⟨?_, ?_⟩
  · replace h := h.1
    intro g
    replace h := h g
    refine ⟨rfl, ?_⟩
    refine q_WP_mono _ _ _ _ _ _ (fun v3 M4 hh => ?_) h
    obtain ⟨hlM4, h⟩ := hh
    exact h
  · replace h := h.2
    intro g
    replace h := h g
    refine ⟨rfl, ?_⟩
    refine q_WP_mono _ _ _ _ _ _ (fun v5 M6 hh => ?_) h
    obtain ⟨hlM6, h⟩ := hh
    rw [lk66 hlM6]
    refine ⟨?_, ?_⟩
    · replace h := h.1
      intro g
      replace h := h g
      refine ⟨rfl, ?_⟩
      refine q_WP_mono _ _ _ _ _ _ (fun v7 M8 hh => ?_) h
      obtain ⟨hlM8, h⟩ := hh
      exact h
    · replace h := h.2
      intro g
      replace h := h g
      refine ⟨rfl, ?_⟩
      refine q_WP_mono _ _ _ _ _ _ (fun v9 M10 hh => ?_) h
      obtain ⟨hlM10, h⟩ := hh
      rw [lk66 hlM10]
      refine ⟨?_, ?_⟩
      · replace h := h.1
        intro g
        replace h := h g
        refine ⟨rfl, ?_⟩
        refine q_WP_mono _ _ _ _ _ _ (fun v11 M12 hh => ?_) h
        obtain ⟨hlM12, h⟩ := hh
        exact h
      · replace h := h.2
        intro g
        replace h := h g
        refine ⟨rfl, ?_⟩
        refine q_WP_mono _ _ _ _ _ _ (fun v13 M14 hh => ?_) h
        obtain ⟨hlM14, h⟩ := hh
        rw [lk66 hlM14, lr66_51 hlM14, ll107 hlM14, lk107 hlM14]
        refine ⟨?_, ?_⟩
        · replace h := h.1
          intro g
          replace h := h g
          refine ⟨rfl, ?_⟩
          refine ⟨rfl, ?_⟩
          refine ⟨⟨⟨by decide, rfl⟩, h.1⟩, ?_⟩
          replace h := h.2
          intro M15
          have hlM15 : q_lay M15 := q_lay_wn hlM14
          replace h := h M15 rfl hlM15
          rw [lk66 hlM15]
          refine ⟨rfl, ?_⟩
          refine ⟨rfl, ?_⟩
          intro M16
          have hlM16 : q_lay M16 := q_lay_wn hlM15
          replace h := h M16 rfl hlM16
          refine ⟨⟨by decide, by decide⟩, ?_⟩
          exact h
        · replace h := h.2
          intro g
          replace h := h g
          refine ⟨rfl, ?_⟩
          refine q_WP_mono _ _ _ _ _ _ (fun v17 M18 hh => ?_) h
          obtain ⟨hlM18, h⟩ := hh
          exact h
theorem t_176_0 {d : Nat} {P : Int → qM → Prop} {M : qM} {c s : Nat} (hl : q_lay M) (h : (∀ M1 : qM, M1 = q_wn M 66 54 (q_nm M 66 52) → q_lay M1 → (q_At q_m176 (q_WP q_Pr d) P 15 [(0, .inr (.inr 66)), (1, .inl (q_nm M 66 54)), (2, .inl (1 : Int))] [] M1 c s))) : q_At q_m176 (q_WP q_Pr d) P 0 [(0, .inr (.inr 66))] [] M c s := by
  refine s_176_0 ?_
  rw [lk66 hl]
  refine ⟨rfl, ?_⟩
  refine ⟨rfl, ?_⟩
  refine ⟨rfl, ?_⟩
  intro M1
  have hlM1 : q_lay M1 := q_lay_wn hl
  replace h := h M1 rfl hlM1
  exact h
theorem t_176_15 {d : Nat} {P : Int → qM → Prop} {x1 x2 : Int} {M : qM} {c s : Nat} (hl : q_lay M) (h : ((x2 = 0 → (q_At q_m176 (q_WP q_Pr d) P 53 [(0, .inr (.inr 66)), (1, .inl x1)] [] M c s)) ∧ (¬ x2 = 0 → ((¬ (q_nm M 66 5) = 0 → (q_At q_m176 (q_WP q_Pr d) P 53 [(0, .inr (.inr 66)), (1, .inl x1)] [] M c s)) ∧ ((q_nm M 66 5) = 0 → q_WP q_Pr d 174 [.inr (.inr 66)] M (fun v1 M2 => q_lay M2 ∧ ((¬ (q_nm M2 66 5) = 0 → (q_At q_m176 (q_WP q_Pr d) P 15 [(0, .inr (.inr 66)), (1, .inl x1), (2, .inl (0 : Int))] [] M2 c s)) ∧ ((q_nm M2 66 5) = 0 → q_WP q_Pr d 175 [.inr (.inr 66)] M2 (fun v3 M4 => q_lay M4 ∧ ((v3 = 0 → (q_At q_m176 (q_WP q_Pr d) P 15 [(0, .inr (.inr 66)), (1, .inl x1), (2, .inl (0 : Int))] [] M4 c s)) ∧ (¬ v3 = 0 → (q_At q_m176 (q_WP q_Pr d) P 15 [(0, .inr (.inr 66)), (1, .inl x1), (2, .inl (1 : Int))] [] M4 c s)))))))))))) : q_At q_m176 (q_WP q_Pr d) P 15 [(0, .inr (.inr 66)), (1, .inl x1), (2, .inl x2)] [] M c s := by
  refine s_176_15 ?_
  rw [lk66 hl]
  refine ⟨?_, ?_⟩
  · replace h := h.1
    intro g
    replace h := h g
    exact h
  · replace h := h.2
    intro g
    replace h := h g
    refine ⟨rfl, ?_⟩
    refine ⟨?_, ?_⟩
    · replace h := h.1
      intro g
      replace h := h g
      exact h
    · replace h := h.2
      intro g
      replace h := h g
      refine ⟨rfl, ?_⟩
      refine q_WP_mono _ _ _ _ _ _ (fun v1 M2 hh => ?_) h
      obtain ⟨hlM2, h⟩ := hh
      rw [lk66 hlM2]
      refine ⟨rfl, ?_⟩
      refine ⟨?_, ?_⟩
      · replace h := h.1
        intro g
        replace h := h g
        exact h
      · replace h := h.2
        intro g
        replace h := h g
        refine ⟨rfl, ?_⟩
        refine q_WP_mono _ _ _ _ _ _ (fun v3 M4 hh => ?_) h
        obtain ⟨hlM4, h⟩ := hh
        refine ⟨?_, ?_⟩
        · replace h := h.1
          intro g
          replace h := h g
          exact h
        · replace h := h.2
          intro g
          replace h := h g
          exact h
theorem t_176_53 {d : Nat} {P : Int → qM → Prop} {x1 : Int} {M : qM} {c s : Nat} (hl : q_lay M) (h : ((¬ (q_nm M 66 5) = 0 → (∀ M1 : qM, M1 = q_wn M 66 54 x1 → q_lay M1 → (P (0 : Int) M1))) ∧ ((q_nm M 66 5) = 0 → (((q_nm M 66 52) ≤ (q_nm M 66 54) → (∀ M2 : qM, M2 = q_wn M 66 54 x1 → q_lay M2 → (P (0 : Int) M2))) ∧ ((q_nm M 66 54) < (q_nm M 66 52) → q_WP q_Pr d 170 [.inr (.inr 66)] M (fun v3 M4 => q_lay M4 ∧ (q_At q_m176 (q_WP q_Pr d) P 53 [(0, .inr (.inr 66)), (1, .inl x1)] [] M4 c s))))))) : q_At q_m176 (q_WP q_Pr d) P 53 [(0, .inr (.inr 66)), (1, .inl x1)] [] M c s := by
  refine s_176_53 ?_
  rw [lk66 hl]
  refine ⟨rfl, ?_⟩
  refine ⟨?_, ?_⟩
  · replace h := h.1
    intro g
    replace h := h g
    refine ⟨rfl, ?_⟩
    intro M1
    have hlM1 : q_lay M1 := q_lay_wn hl
    replace h := h M1 rfl hlM1
    exact h
  · replace h := h.2
    intro g
    replace h := h g
    refine ⟨rfl, ?_⟩
    refine ⟨rfl, ?_⟩
    refine ⟨?_, ?_⟩
    · replace h := h.1
      intro g
      replace h := h g
      refine ⟨rfl, ?_⟩
      intro M2
      have hlM2 : q_lay M2 := q_lay_wn hl
      replace h := h M2 rfl hlM2
      exact h
    · replace h := h.2
      intro g
      replace h := h g
      refine ⟨rfl, ?_⟩
      refine q_WP_mono _ _ _ _ _ _ (fun v3 M4 hh => ?_) h
      obtain ⟨hlM4, h⟩ := hh
      exact h
theorem t_177_0 {d : Nat} {P : Int → qM → Prop} {M : qM} {c s : Nat} (hl : q_lay M) (h : q_WP q_Pr d 154 [.inr (.inr 66), .inr (.inr 81)] M (fun v1 M2 => q_lay M2 ∧ ((v1 = 0 → q_WP q_Pr d 154 [.inr (.inr 66), .inr (.inr 82)] M2 (fun v3 M4 => q_lay M4 ∧ ((v3 = 0 → q_WP q_Pr d 176 [.inr (.inr 66)] M4 (fun v5 M6 => q_lay M6 ∧ (((q_nm M6 66 5) = 0 → q_WP q_Pr d 152 [.inr (.inr 66)] M6 (fun v7 M8 => q_lay M8 ∧ ((v7 = (60 : Int) → (q_At q_m177 (q_WP q_Pr d) P 81 [(0, .inr (.inr 66)), (1, .inl v7)] [] M8 c s)) ∧ (¬ v7 = (60 : Int) → ((v7 = (62 : Int) → (q_At q_m177 (q_WP q_Pr d) P 81 [(0, .inr (.inr 66)), (1, .inl v7)] [] M8 c s)) ∧ (¬ v7 = (62 : Int) → ((v7 = (61 : Int) → (q_At q_m177 (q_WP q_Pr d) P 81 [(0, .inr (.inr 66)), (1, .inl v7)] [] M8 c s)) ∧ (¬ v7 = (61 : Int) → q_WP q_Pr d 149 [.inr (.inr 66), .inl (1 : Int), .inl (q_nm M8 66 2)] M8 (fun v9 M10 => q_lay M10 ∧ (P (0 : Int) M10)))))))))) ∧ (¬ (q_nm M6 66 5) = 0 → (P (0 : Int) M6))))) ∧ (¬ v3 = 0 → q_WP q_Pr d 167 [.inr (.inr 66), .inl (31 : Int)] M4 (fun v11 M12 => q_lay M12 ∧ (P (0 : Int) M12)))))) ∧ (¬ v1 = 0 → q_WP q_Pr d 167 [.inr (.inr 66), .inl (17 : Int)] M2 (fun v13 M14 => q_lay M14 ∧ (P (0 : Int) M14)))))) : q_At q_m177 (q_WP q_Pr d) P 0 [(0, .inr (.inr 66))] [] M c s := by
  refine s_177_0 ?_
  rw [lk66 hl, lr66_22 hl]
  refine ⟨rfl, ?_⟩
  refine ⟨rfl, ?_⟩
  refine q_WP_mono _ _ _ _ _ _ (fun v1 M2 hh => ?_) h
  obtain ⟨hlM2, h⟩ := hh
  rw [lk66 hlM2, lr66_23 hlM2]
  refine ⟨?_, ?_⟩
  · replace h := h.1
    intro g
    replace h := h g
    refine ⟨rfl, ?_⟩
    refine ⟨rfl, ?_⟩
    refine q_WP_mono _ _ _ _ _ _ (fun v3 M4 hh => ?_) h
    obtain ⟨hlM4, h⟩ := hh
    rw [lk66 hlM4]
    refine ⟨?_, ?_⟩
    · replace h := h.1
      intro g
      replace h := h g
      refine ⟨rfl, ?_⟩
      refine q_WP_mono _ _ _ _ _ _ (fun v5 M6 hh => ?_) h
      obtain ⟨hlM6, h⟩ := hh
      rw [lk66 hlM6]
      refine ⟨rfl, ?_⟩
      refine ⟨?_, ?_⟩
      · replace h := h.1
        intro g
        replace h := h g
        refine ⟨rfl, ?_⟩
        refine q_WP_mono _ _ _ _ _ _ (fun v7 M8 hh => ?_) h
        obtain ⟨hlM8, h⟩ := hh
        rw [lk66 hlM8]
        refine ⟨?_, ?_⟩
        · replace h := h.1
          intro g
          replace h := h g
          exact h
        · replace h := h.2
          intro g
          replace h := h g
          refine ⟨?_, ?_⟩
          · replace h := h.1
            intro g
            replace h := h g
            exact h
          · replace h := h.2
            intro g
            replace h := h g
            refine ⟨?_, ?_⟩
            · replace h := h.1
              intro g
              replace h := h g
              exact h
            · replace h := h.2
              intro g
              replace h := h g
              refine ⟨rfl, ?_⟩
              refine ⟨rfl, ?_⟩
              refine q_WP_mono _ _ _ _ _ _ (fun v9 M10 hh => ?_) h
              obtain ⟨hlM10, h⟩ := hh
              exact h
      · replace h := h.2
        intro g
        replace h := h g
        exact h
    · replace h := h.2
      intro g
      replace h := h g
      refine ⟨rfl, ?_⟩
      refine q_WP_mono _ _ _ _ _ _ (fun v11 M12 hh => ?_) h
      obtain ⟨hlM12, h⟩ := hh
      exact h
  · replace h := h.2
    intro g
    replace h := h g
    refine ⟨rfl, ?_⟩
    refine q_WP_mono _ _ _ _ _ _ (fun v13 M14 hh => ?_) h
    obtain ⟨hlM14, h⟩ := hh
    exact h
theorem t_177_81 {d : Nat} {P : Int → qM → Prop} {x1 : Int} {M : qM} {c s : Nat} (hl : q_lay M) (h : (∀ M1 : qM, M1 = q_wn M 66 2 (w32 ((q_nm M 66 2) + (1 : Int))) → q_lay M1 → q_WP q_Pr d 176 [.inr (.inr 66)] M1 (fun v2 M3 => q_lay M3 ∧ ((¬ x1 = (60 : Int) → ((¬ x1 = (62 : Int) → (q_At q_m177 (q_WP q_Pr d) P 120 [] [.inl (13 : Int), .inr (.inr 66)] M3 c s)) ∧ (x1 = (62 : Int) → (q_At q_m177 (q_WP q_Pr d) P 120 [] [.inl (12 : Int), .inr (.inr 66)] M3 c s)))) ∧ (x1 = (60 : Int) → (q_At q_m177 (q_WP q_Pr d) P 120 [] [.inl (11 : Int), .inr (.inr 66)] M3 c s)))))) : q_At q_m177 (q_WP q_Pr d) P 81 [(0, .inr (.inr 66)), (1, .inl x1)] [] M c s := by
  refine s_177_81 ?_
  rw [lk66 hl]
  refine ⟨rfl, ?_⟩
  refine ⟨rfl, ?_⟩
  intro M1
  have hlM1 : q_lay M1 := q_lay_wn hl
  replace h := h M1 rfl hlM1
  rw [lk66 hlM1]
  refine ⟨rfl, ?_⟩
  refine q_WP_mono _ _ _ _ _ _ (fun v2 M3 hh => ?_) h
  obtain ⟨hlM3, h⟩ := hh
  refine ⟨?_, ?_⟩
  · replace h := h.1
    intro g
    replace h := h g
    refine ⟨?_, ?_⟩
    · replace h := h.1
      intro g
      replace h := h g
      exact h
    · replace h := h.2
      intro g
      replace h := h g
      exact h
  · replace h := h.2
    intro g
    replace h := h g
    exact h
theorem t_177_120 {d : Nat} {P : Int → qM → Prop} {y0 y1 : Int} {M : qM} {c s : Nat} (hl : q_lay M) (h : ((q_kd M y1 = 11) ∧ q_WP q_Pr d 167 [.inr (.inr y1), .inl y0] M (fun v1 M2 => q_lay M2 ∧ (P (0 : Int) M2)))) : q_At q_m177 (q_WP q_Pr d) P 120 [] [.inl y0, .inr (.inr y1)] M c s := by
  refine s_177_120 ?_
  refine ⟨h.1, ?_⟩
  replace h := h.2
  refine q_WP_mono _ _ _ _ _ _ (fun v1 M2 hh => ?_) h
  obtain ⟨hlM2, h⟩ := hh
  exact h
theorem t_178_0 {d : Nat} {P : Int → qM → Prop} {M : qM} {c s : Nat} (hl : q_lay M) (h : (q_At q_m178 (q_WP q_Pr d) P 2 [(0, .inr (.inr 66)), (1, .inl (0 : Int))] [] M c s)) : q_At q_m178 (q_WP q_Pr d) P 0 [(0, .inr (.inr 66))] [] M c s := by
  refine s_178_0 ?_
  exact h
theorem t_178_2 {d : Nat} {P : Int → qM → Prop} {x1 : Int} {M : qM} {c s : Nat} (hl : q_lay M) (h : (((q_nm M 66 52) ≤ x1 → (P (0 : Int) M)) ∧ (x1 < (q_nm M 66 52) → ((0 ≤ x1 ∧ x1 < 2200) ∧ ((¬ (q_nm M 107 x1) = (25 : Int) → (q_At q_m178 (q_WP q_Pr d) P 2 [(0, .inr (.inr 66)), (1, .inl (w32 (x1 + 1)))] [] M c s)) ∧ ((q_nm M 107 x1) = (25 : Int) → (P (1 : Int) M))))))) : q_At q_m178 (q_WP q_Pr d) P 2 [(0, .inr (.inr 66)), (1, .inl x1)] [] M c s := by
  refine s_178_2 ?_
  rw [lk66 hl, lr66_51 hl, ll107 hl, lk107 hl]
  refine ⟨rfl, ?_⟩
  refine ⟨?_, ?_⟩
  · replace h := h.1
    intro g
    replace h := h g
    refine ⟨⟨by decide, by decide⟩, ?_⟩
    exact h
  · replace h := h.2
    intro g
    replace h := h g
    refine ⟨rfl, ?_⟩
    refine ⟨⟨rfl, h.1⟩, ?_⟩
    replace h := h.2
    refine ⟨?_, ?_⟩
    · replace h := h.1
      intro g
      replace h := h g
      exact h
    · replace h := h.2
      intro g
      replace h := h g
      refine ⟨⟨by decide, by decide⟩, ?_⟩
      exact h
theorem t_179_0 {d : Nat} {P : Int → qM → Prop} {M : qM} {c s : Nat} (hl : q_lay M) (h : ((¬ (q_nm M 66 5) = 0 → (P (0 : Int) M)) ∧ ((q_nm M 66 5) = 0 → q_WP q_Pr d 169 [.inr (.inr 66), .inl (16 : Int)] M (fun v1 M2 => q_lay M2 ∧ ((v1 = 0 → (P (0 : Int) M2)) ∧ (¬ v1 = 0 → (∀ M3 : qM, M3 = q_wn M2 66 53 (w32 ((q_nm M2 66 53) - (1 : Int))) → q_lay M3 → q_WP q_Pr d 170 [.inr (.inr 66)] M3 (fun v4 M5 => q_lay M5 ∧ (q_At q_m179 (q_WP q_Pr d) P 0 [(0, .inr (.inr 66))] [] M5 c s))))))))) : q_At q_m179 (q_WP q_Pr d) P 0 [(0, .inr (.inr 66))] [] M c s := by
  refine s_179_0 ?_
  rw [lk66 hl]
  refine ⟨rfl, ?_⟩
  refine ⟨?_, ?_⟩
  · replace h := h.1
    intro g
    replace h := h g
    exact h
  · replace h := h.2
    intro g
    replace h := h g
    refine ⟨rfl, ?_⟩
    refine q_WP_mono _ _ _ _ _ _ (fun v1 M2 hh => ?_) h
    obtain ⟨hlM2, h⟩ := hh
    rw [lk66 hlM2]
    refine ⟨?_, ?_⟩
    · replace h := h.1
      intro g
      replace h := h g
      exact h
    · replace h := h.2
      intro g
      replace h := h g
      refine ⟨rfl, ?_⟩
      refine ⟨rfl, ?_⟩
      intro M3
      have hlM3 : q_lay M3 := q_lay_wn hlM2
      replace h := h M3 rfl hlM3
      rw [lk66 hlM3]
      refine ⟨rfl, ?_⟩
      refine q_WP_mono _ _ _ _ _ _ (fun v4 M5 hh => ?_) h
      obtain ⟨hlM5, h⟩ := hh
      exact h
theorem t_180_0 {d : Nat} {P : Int → qM → Prop} {M : qM} {c s : Nat} (hl : q_lay M) (h : (q_At q_m180 (q_WP q_Pr d) P 2 [(0, .inr (.inr 66)), (1, .inl (1 : Int))] [] M c s)) : q_At q_m180 (q_WP q_Pr d) P 0 [(0, .inr (.inr 66))] [] M c s := by
  refine s_180_0 ?_
  exact h
theorem t_180_2 {d : Nat} {P : Int → qM → Prop} {x1 : Int} {M : qM} {c s : Nat} (hl : q_lay M) (h : ((x1 = 0 → (q_At q_m180 (q_WP q_Pr d) P 110 [(0, .inr (.inr 66))] [] M c s)) ∧ (¬ x1 = 0 → ((¬ (q_nm M 66 5) = 0 → (q_At q_m180 (q_WP q_Pr d) P 110 [(0, .inr (.inr 66))] [] M c s)) ∧ ((q_nm M 66 5) = 0 → q_WP q_Pr d 152 [.inr (.inr 66)] M (fun v1 M2 => q_lay M2 ∧ ((¬ v1 = (91 : Int) → q_WP q_Pr d 153 [.inr (.inr 66), .inr (.inr 80)] M2 (fun v3 M4 => q_lay M4 ∧ ((v3 = 0 → q_WP q_Pr d 177 [.inr (.inr 66)] M4 (fun v5 M6 => q_lay M6 ∧ q_WP q_Pr d 179 [.inr (.inr 66)] M6 (fun v7 M8 => q_lay M8 ∧ ((¬ (q_nm M8 66 5) = 0 → (q_At q_m180 (q_WP q_Pr d) P 2 [(0, .inr (.inr 66)), (1, .inl (0 : Int))] [] M8 c s)) ∧ ((q_nm M8 66 5) = 0 → q_WP q_Pr d 181 [.inr (.inr 66)] M8 (fun v9 M10 => q_lay M10 ∧ ((v9 = 0 → (q_At q_m180 (q_WP q_Pr d) P 2 [(0, .inr (.inr 66)), (1, .inl (0 : Int))] [] M10 c s)) ∧ (¬ v9 = 0 → (q_At q_m180 (q_WP q_Pr d) P 2 [(0, .inr (.inr 66)), (1, .inl (1 : Int))] [] M10 c s))))))))) ∧ (¬ v3 = 0 → q_WP q_Pr d 168 [.inr (.inr 66), .inl (16 : Int), .inl (q_nm M4 66 2)] M4 (fun v11 M12 => q_lay M12 ∧ q_WP q_Pr d 155 [.inr (.inr 66), .inr (.inr 80)] M12 (fun v13 M14 => q_lay M14 ∧ (q_At q_m180 (q_WP q_Pr d) P 2 [(0, .inr (.inr 66)), (1, .inl x1)] [] M14 c s))))))) ∧ (v1 = (91 : Int) → q_WP q_Pr d 168 [.inr (.inr 66), .inl (25 : Int), .inl (q_nm M2 66 2)] M2 (fun v15 M16 => q_lay M16 ∧ (∀ M17 : qM, M17 = q_wn M16 66 2 (w32 ((q_nm M16 66 2) + (1 : Int))) → q_lay M17 → (q_At q_m180 (q_WP q_Pr d) P 2 [(0, .inr (.inr 66)), (1, .inl x1)] [] M17 c s))))))))))) : q_At q_m180 (q_WP q_Pr d) P 2 [(0, .inr (.inr 66)), (1, .inl x1)] [] M c s := by
  refine s_180_2 ?_
  rw [lk66 hl]
  refine ⟨?_, ?_⟩
  · replace h := h.1
    intro g
    replace h := h g
    exact h
  · replace h := h.2
    intro g
    replace h := h g
    refine ⟨rfl, ?_⟩
    refine ⟨?_, ?_⟩
    · replace h := h.1
      intro g
      replace h := h g
      exact h
    · replace h := h.2
      intro g
      replace h := h g
      refine ⟨rfl, ?_⟩
      refine q_WP_mono _ _ _ _ _ _ (fun v1 M2 hh => ?_) h
      obtain ⟨hlM2, h⟩ := hh
      rw [lk66 hlM2, lr66_21 hlM2]
      refine ⟨?_, ?_⟩
      · replace h := h.1
        intro g
        replace h := h g
        refine ⟨rfl, ?_⟩
        refine ⟨rfl, ?_⟩
        refine q_WP_mono _ _ _ _ _ _ (fun v3 M4 hh => ?_) h
        obtain ⟨hlM4, h⟩ := hh
        rw [lk66 hlM4]
        refine ⟨?_, ?_⟩
        · replace h := h.1
          intro g
          replace h := h g
          refine ⟨rfl, ?_⟩
          refine q_WP_mono _ _ _ _ _ _ (fun v5 M6 hh => ?_) h
          obtain ⟨hlM6, h⟩ := hh
          rw [lk66 hlM6]
          refine ⟨rfl, ?_⟩
          refine q_WP_mono _ _ _ _ _ _ (fun v7 M8 hh => ?_) h
          obtain ⟨hlM8, h⟩ := hh
          rw [lk66 hlM8]
          refine ⟨rfl, ?_⟩
          refine ⟨?_, ?_⟩
          · replace h := h.1
            intro g
            replace h := h g
            exact h
          · replace h := h.2
            intro g
            replace h := h g
            refine ⟨rfl, ?_⟩
            refine q_WP_mono _ _ _ _ _ _ (fun v9 M10 hh => ?_) h
            obtain ⟨hlM10, h⟩ := hh
            refine ⟨?_, ?_⟩
            · replace h := h.1
              intro g
              replace h := h g
              exact h
            · replace h := h.2
              intro g
              replace h := h g
              exact h
        · replace h := h.2
          intro g
          replace h := h g
          refine ⟨rfl, ?_⟩
          refine ⟨rfl, ?_⟩
          refine q_WP_mono _ _ _ _ _ _ (fun v11 M12 hh => ?_) h
          obtain ⟨hlM12, h⟩ := hh
          rw [lk66 hlM12, lr66_21 hlM12]
          refine ⟨rfl, ?_⟩
          refine ⟨rfl, ?_⟩
          refine q_WP_mono _ _ _ _ _ _ (fun v13 M14 hh => ?_) h
          obtain ⟨hlM14, h⟩ := hh
          exact h
      · replace h := h.2
        intro g
        replace h := h g
        refine ⟨rfl, ?_⟩
        refine ⟨rfl, ?_⟩
        refine q_WP_mono _ _ _ _ _ _ (fun v15 M16 hh => ?_) h
        obtain ⟨hlM16, h⟩ := hh
        rw [lk66 hlM16]
        refine ⟨rfl, ?_⟩
        refine ⟨rfl, ?_⟩
        intro M17
        have hlM17 : q_lay M17 := q_lay_wn hlM16
        replace h := h M17 rfl hlM17
        exact h
theorem t_180_110 {d : Nat} {P : Int → qM → Prop} {M : qM} {c s : Nat} (hl : q_lay M) (h : ((¬ (q_nm M 66 5) = 0 → (P (0 : Int) M)) ∧ ((q_nm M 66 5) = 0 → (((q_nm M 66 52) ≤ 0 → (P (0 : Int) M)) ∧ (0 < (q_nm M 66 52) → q_WP q_Pr d 170 [.inr (.inr 66)] M (fun v1 M2 => q_lay M2 ∧ (q_At q_m180 (q_WP q_Pr d) P 110 [(0, .inr (.inr 66))] [] M2 c s))))))) : q_At q_m180 (q_WP q_Pr d) P 110 [(0, .inr (.inr 66))] [] M c s := by
  refine s_180_110 ?_
  rw [lk66 hl]
  refine ⟨rfl, ?_⟩
  refine ⟨?_, ?_⟩
  · replace h := h.1
    intro g
    replace h := h g
    exact h
  · replace h := h.2
    intro g
    replace h := h g
    refine ⟨rfl, ?_⟩
    refine ⟨?_, ?_⟩
    · replace h := h.1
      intro g
      replace h := h g
      exact h
    · replace h := h.2
      intro g
      replace h := h g
      refine ⟨rfl, ?_⟩
      refine q_WP_mono _ _ _ _ _ _ (fun v1 M2 hh => ?_) h
      obtain ⟨hlM2, h⟩ := hh
      exact h
theorem t_181_0 {d : Nat} {P : Int → qM → Prop} {M : qM} {c s : Nat} (hl : q_lay M) (h : ((¬ (q_nm M 66 5) = 0 → (q_At q_m181 (q_WP q_Pr d) P 76 [(0, .inr (.inr 66))] [] M c s)) ∧ ((q_nm M 66 5) = 0 → q_WP q_Pr d 152 [.inr (.inr 66)] M (fun v1 M2 => q_lay M2 ∧ ((¬ v1 = (93 : Int) → (q_At q_m181 (q_WP q_Pr d) P 76 [(0, .inr (.inr 66))] [] M2 c s)) ∧ (v1 = (93 : Int) → q_WP q_Pr d 178 [.inr (.inr 66)] M2 (fun v3 M4 => q_lay M4 ∧ ((v3 = 0 → (q_At q_m181 (q_WP q_Pr d) P 76 [(0, .inr (.inr 66))] [] M4 c s)) ∧ (¬ v3 = 0 → (∀ M5 : qM, M5 = q_wn M4 66 2 (w32 ((q_nm M4 66 2) + (1 : Int))) → q_lay M5 → (q_At q_m181 (q_WP q_Pr d) P 33 [(0, .inr (.inr 66))] [] M5 c s))))))))))) : q_At q_m181 (q_WP q_Pr d) P 0 [(0, .inr (.inr 66))] [] M c s := by
  refine s_181_0 ?_
  rw [lk66 hl]
  refine ⟨rfl, ?_⟩
  refine ⟨?_, ?_⟩
  · replace h := h.1
    intro g
    replace h := h g
    exact h
  · replace h := h.2
    intro g
    replace h := h g
    refine ⟨rfl, ?_⟩
    refine q_WP_mono _ _ _ _ _ _ (fun v1 M2 hh => ?_) h
    obtain ⟨hlM2, h⟩ := hh
    rw [lk66 hlM2]
    refine ⟨?_, ?_⟩
    · replace h := h.1
      intro g
      replace h := h g
      exact h
    · replace h := h.2
      intro g
      replace h := h g
      refine ⟨rfl, ?_⟩
      refine q_WP_mono _ _ _ _ _ _ (fun v3 M4 hh => ?_) h
      obtain ⟨hlM4, h⟩ := hh
      rw [lk66 hlM4]
      refine ⟨?_, ?_⟩
      · replace h := h.1
        intro g
        replace h := h g
        exact h
      · replace h := h.2
        intro g
        replace h := h g
        refine ⟨rfl, ?_⟩
        refine ⟨rfl, ?_⟩
        intro M5
        have hlM5 : q_lay M5 := q_lay_wn hlM4
        replace h := h M5 rfl hlM5
        exact h
theorem t_181_33 {d : Nat} {P : Int → qM → Prop} {M : qM} {c s : Nat} (hl : q_lay M) (h : q_WP q_Pr d 169 [.inr (.inr 66), .inl (25 : Int)] M (fun v1 M2 => q_lay M2 ∧ ((¬ v1 = 0 → (∀ M3 : qM, M3 = q_wn M2 66 52 (w32 ((q_nm M2 66 52) - (1 : Int))) → q_lay M3 → (∀ M4 : qM, M4 = q_wn M3 66 53 (w32 ((q_nm M3 66 53) - (1 : Int))) → q_lay M4 → q_WP q_Pr d 179 [.inr (.inr 66)] M4 (fun v5 M6 => q_lay M6 ∧ (q_At q_m181 (q_WP q_Pr d) P 0 [(0, .inr (.inr 66))] [] M6 c s))))) ∧ (v1 = 0 → q_WP q_Pr d 170 [.inr (.inr 66)] M2 (fun v7 M8 => q_lay M8 ∧ (q_At q_m181 (q_WP q_Pr d) P 33 [(0, .inr (.inr 66))] [] M8 c s)))))) : q_At q_m181 (q_WP q_Pr d) P 33 [(0, .inr (.inr 66))] [] M c s := by
  refine s_181_33 ?_
  rw [lk66 hl]
  refine ⟨rfl, ?_⟩
  refine q_WP_mono _ _ _ _ _ _ (fun v1 M2 hh => ?_) h
  obtain ⟨hlM2, h⟩ := hh
  rw [lk66 hlM2]
  refine ⟨?_, ?_⟩
  · replace h := h.1
    intro g
    replace h := h g
    refine ⟨rfl, ?_⟩
    refine ⟨rfl, ?_⟩
    intro M3
    have hlM3 : q_lay M3 := q_lay_wn hlM2
    replace h := h M3 rfl hlM3
    rw [lk66 hlM3]
    refine ⟨rfl, ?_⟩
    refine ⟨rfl, ?_⟩
    intro M4
    have hlM4 : q_lay M4 := q_lay_wn hlM3
    replace h := h M4 rfl hlM4
    rw [lk66 hlM4]
    refine ⟨rfl, ?_⟩
    refine q_WP_mono _ _ _ _ _ _ (fun v5 M6 hh => ?_) h
    obtain ⟨hlM6, h⟩ := hh
    exact h
  · replace h := h.2
    intro g
    replace h := h g
    refine ⟨rfl, ?_⟩
    refine q_WP_mono _ _ _ _ _ _ (fun v7 M8 hh => ?_) h
    obtain ⟨hlM8, h⟩ := hh
    exact h
theorem t_181_76 {d : Nat} {P : Int → qM → Prop} {M : qM} {c s : Nat} (hl : q_lay M) (h : q_WP q_Pr d 154 [.inr (.inr 66), .inr (.inr 79)] M (fun v1 M2 => q_lay M2 ∧ ((v1 = 0 → q_WP q_Pr d 154 [.inr (.inr 66), .inr (.inr 78)] M2 (fun v3 M4 => q_lay M4 ∧ ((v3 = 0 → ((¬ (q_nm M4 66 5) = 0 → (P (0 : Int) M4)) ∧ ((q_nm M4 66 5) = 0 → q_WP q_Pr d 178 [.inr (.inr 66)] M4 (fun v5 M6 => q_lay M6 ∧ ((v5 = 0 → (P (0 : Int) M6)) ∧ (¬ v5 = 0 → q_WP q_Pr d 149 [.inr (.inr 66), .inl (1 : Int), .inl (q_nm M6 66 2)] M6 (fun v7 M8 => q_lay M8 ∧ (P (0 : Int) M8)))))))) ∧ (¬ v3 = 0 → (q_At q_m181 (q_WP q_Pr d) P 137 [(0, .inr (.inr 66))] [] M4 c s))))) ∧ (¬ v1 = 0 → (q_At q_m181 (q_WP q_Pr d) P 87 [(0, .inr (.inr 66))] [] M2 c s))))) : q_At q_m181 (q_WP q_Pr d) P 76 [(0, .inr (.inr 66))] [] M c s := by
  refine s_181_76 ?_
  rw [lk66 hl, lr66_20 hl]
  refine ⟨rfl, ?_⟩
  refine ⟨rfl, ?_⟩
  refine q_WP_mono _ _ _ _ _ _ (fun v1 M2 hh => ?_) h
  obtain ⟨hlM2, h⟩ := hh
  rw [lk66 hlM2, lr66_19 hlM2]
  refine ⟨?_, ?_⟩
  · replace h := h.1
    intro g
    replace h := h g
    refine ⟨rfl, ?_⟩
    refine ⟨rfl, ?_⟩
    refine q_WP_mono _ _ _ _ _ _ (fun v3 M4 hh => ?_) h
    obtain ⟨hlM4, h⟩ := hh
    rw [lk66 hlM4]
    refine ⟨?_, ?_⟩
    · replace h := h.1
      intro g
      replace h := h g
      refine ⟨rfl, ?_⟩
      refine ⟨?_, ?_⟩
      · replace h := h.1
        intro g
        replace h := h g
        refine ⟨⟨by decide, by decide⟩, ?_⟩
        exact h
      · replace h := h.2
        intro g
        replace h := h g
        refine ⟨rfl, ?_⟩
        refine q_WP_mono _ _ _ _ _ _ (fun v5 M6 hh => ?_) h
        obtain ⟨hlM6, h⟩ := hh
        rw [lk66 hlM6]
        refine ⟨?_, ?_⟩
        · replace h := h.1
          intro g
          replace h := h g
          refine ⟨⟨by decide, by decide⟩, ?_⟩
          exact h
        · replace h := h.2
          intro g
          replace h := h g
          refine ⟨rfl, ?_⟩
          refine ⟨rfl, ?_⟩
          refine q_WP_mono _ _ _ _ _ _ (fun v7 M8 hh => ?_) h
          obtain ⟨hlM8, h⟩ := hh
          refine ⟨⟨by decide, by decide⟩, ?_⟩
          exact h
    · replace h := h.2
      intro g
      replace h := h g
      exact h
  · replace h := h.2
    intro g
    replace h := h g
    exact h
theorem t_181_87 {d : Nat} {P : Int → qM → Prop} {M : qM} {c s : Nat} (hl : q_lay M) (h : q_WP q_Pr d 169 [.inr (.inr 66), .inl (14 : Int)] M (fun v1 M2 => q_lay M2 ∧ ((v1 = 0 → ((0 ≤ (q_nm M2 66 52) ∧ (q_nm M2 66 52) < 2200) ∧ (∀ M3 : qM, M3 = q_wn M2 107 (q_nm M2 66 52) (14 : Int) → q_lay M3 → (∀ M4 : qM, M4 = q_wn M3 66 52 (w32 ((q_nm M3 66 52) + (1 : Int))) → q_lay M4 → (P (1 : Int) M4))))) ∧ (¬ v1 = 0 → q_WP q_Pr d 170 [.inr (.inr 66)] M2 (fun v5 M6 => q_lay M6 ∧ (q_At q_m181 (q_WP q_Pr d) P 87 [(0, .inr (.inr 66))] [] M6 c s)))))) : q_At q_m181 (q_WP q_Pr d) P 87 [(0, .inr (.inr 66))] [] M c s := by
  refine s_181_87 ?_
  rw [lk66 hl]
  refine ⟨rfl, ?_⟩
  refine q_WP_mono _ _ _ _ _ _ (fun v1 M2 hh => ?_) h
  obtain ⟨hlM2, h⟩ := hh
  rw [lk66 hlM2, lr66_51 hlM2, ll107 hlM2, lk107 hlM2]
  refine ⟨?_, ?_⟩
  · replace h := h.1
    intro g
    replace h := h g
    refine ⟨rfl, ?_⟩
    refine ⟨rfl, ?_⟩
    refine ⟨⟨⟨by decide, rfl⟩, h.1⟩, ?_⟩
    replace h := h.2
    intro M3
    have hlM3 : q_lay M3 := q_lay_wn hlM2
    replace h := h M3 rfl hlM3
    rw [lk66 hlM3]
    refine ⟨rfl, ?_⟩
    refine ⟨rfl, ?_⟩
    intro M4
    have hlM4 : q_lay M4 := q_lay_wn hlM3
    replace h := h M4 rfl hlM4
    refine ⟨⟨by decide, by decide⟩, ?_⟩
    exact h
  · replace h := h.2
    intro g
    replace h := h g
    refine ⟨rfl, ?_⟩
    refine q_WP_mono _ _ _ _ _ _ (fun v5 M6 hh => ?_) h
    obtain ⟨hlM6, h⟩ := hh
    exact h
theorem t_181_137 {d : Nat} {P : Int → qM → Prop} {M : qM} {c s : Nat} (hl : q_lay M) (h : q_WP q_Pr d 169 [.inr (.inr 66), .inl (14 : Int)] M (fun v1 M2 => q_lay M2 ∧ ((¬ v1 = 0 → q_WP q_Pr d 170 [.inr (.inr 66)] M2 (fun v3 M4 => q_lay M4 ∧ (q_At q_m181 (q_WP q_Pr d) P 137 [(0, .inr (.inr 66))] [] M4 c s))) ∧ (v1 = 0 → q_WP q_Pr d 169 [.inr (.inr 66), .inl (15 : Int)] M2 (fun v5 M6 => q_lay M6 ∧ ((v5 = 0 → ((0 ≤ (q_nm M6 66 52) ∧ (q_nm M6 66 52) < 2200) ∧ (∀ M7 : qM, M7 = q_wn M6 107 (q_nm M6 66 52) (15 : Int) → q_lay M7 → (∀ M8 : qM, M8 = q_wn M7 66 52 (w32 ((q_nm M7 66 52) + (1 : Int))) → q_lay M8 → (P (1 : Int) M8))))) ∧ (¬ v5 = 0 → q_WP q_Pr d 170 [.inr (.inr 66)] M6 (fun v9 M10 => q_lay M10 ∧ (q_At q_m181 (q_WP q_Pr d) P 137 [(0, .inr (.inr 66))] [] M10 c s))))))))) : q_At q_m181 (q_WP q_Pr d) P 137 [(0, .inr (.inr 66))] [] M c s := by
  refine s_181_137 ?_
  rw [lk66 hl]
  refine ⟨rfl, ?_⟩
  refine q_WP_mono _ _ _ _ _ _ (fun v1 M2 hh => ?_) h
  obtain ⟨hlM2, h⟩ := hh
  rw [lk66 hlM2]
  refine ⟨?_, ?_⟩
  · replace h := h.1
    intro g
    replace h := h g
    refine ⟨rfl, ?_⟩
    refine q_WP_mono _ _ _ _ _ _ (fun v3 M4 hh => ?_) h
    obtain ⟨hlM4, h⟩ := hh
    exact h
  · replace h := h.2
    intro g
    replace h := h g
    refine ⟨rfl, ?_⟩
    refine q_WP_mono _ _ _ _ _ _ (fun v5 M6 hh => ?_) h
    obtain ⟨hlM6, h⟩ := hh
    rw [lk66 hlM6, lr66_51 hlM6, ll107 hlM6, lk107 hlM6]
    refine ⟨?_, ?_⟩
    · replace h := h.1
      intro g
      replace h := h g
      refine ⟨rfl, ?_⟩
      refine ⟨rfl, ?_⟩
      refine ⟨⟨⟨by decide, rfl⟩, h.1⟩, ?_⟩
      replace h := h.2
      intro M7
      have hlM7 : q_lay M7 := q_lay_wn hlM6
      replace h := h M7 rfl hlM7
      rw [lk66 hlM7]
      refine ⟨rfl, ?_⟩
      refine ⟨rfl, ?_⟩
      intro M8
      have hlM8 : q_lay M8 := q_lay_wn hlM7
      replace h := h M8 rfl hlM8
      refine ⟨⟨by decide, by decide⟩, ?_⟩
      exact h
    · replace h := h.2
      intro g
      replace h := h g
      refine ⟨rfl, ?_⟩
      refine q_WP_mono _ _ _ _ _ _ (fun v9 M10 hh => ?_) h
      obtain ⟨hlM10, h⟩ := hh
      exact h
theorem t_182_0 {d : Nat} {P : Int → qM → Prop} {M : qM} {c s : Nat} (hl : q_lay M) (h : q_WP q_Pr d 154 [.inr (.inr 66), .inr (.inr 68)] M (fun v1 M2 => q_lay M2 ∧ ((v1 = 0 → q_WP q_Pr d 154 [.inr (.inr 66), .inr (.inr 69)] M2 (fun v3 M4 => q_lay M4 ∧ ((v3 = 0 → q_WP q_Pr d 154 [.inr (.inr 66), .inr (.inr 70)] M4 (fun v5 M6 => q_lay M6 ∧ ((v5 = 0 → q_WP q_Pr d 154 [.inr (.inr 66), .inr (.inr 71)] M6 (fun v7 M8 => q_lay M8 ∧ ((v7 = 0 → q_WP q_Pr d 154 [.inr (.inr 66), .inr (.inr 72)] M8 (fun v9 M10 => q_lay M10 ∧ ((v9 = 0 → (q_At q_m182 (q_WP q_Pr d) P 76 [(0, .inr (.inr 66))] [.inl (-1 : Int)] M10 c s)) ∧ (¬ v9 = 0 → (q_At q_m182 (q_WP q_Pr d) P 76 [(0, .inr (.inr 66))] [.inl (4 : Int)] M10 c s))))) ∧ (¬ v7 = 0 → (q_At q_m182 (q_WP q_Pr d) P 76 [(0, .inr (.inr 66))] [.inl (3 : Int)] M8 c s))))) ∧ (¬ v5 = 0 → (q_At q_m182 (q_WP q_Pr d) P 76 [(0, .inr (.inr 66))] [.inl (2 : Int)] M6 c s))))) ∧ (¬ v3 = 0 → (q_At q_m182 (q_WP q_Pr d) P 76 [(0, .inr (.inr 66))] [.inl (1 : Int)] M4 c s))))) ∧ (¬ v1 = 0 → (q_At q_m182 (q_WP q_Pr d) P 76 [(0, .inr (.inr 66))] [.inl (0 : Int)] M2 c s))))) : q_At q_m182 (q_WP q_Pr d) P 0 [(0, .inr (.inr 66))] [] M c s := by
  refine s_182_0 ?_
  rw [lk66 hl, lr66_9 hl]
  refine ⟨rfl, ?_⟩
  refine ⟨rfl, ?_⟩
  refine q_WP_mono _ _ _ _ _ _ (fun v1 M2 hh => ?_) h
  obtain ⟨hlM2, h⟩ := hh
  rw [lk66 hlM2, lr66_10 hlM2]
  refine ⟨?_, ?_⟩
  · replace h := h.1
    intro g
    replace h := h g
    refine ⟨rfl, ?_⟩
    refine ⟨rfl, ?_⟩
    refine q_WP_mono _ _ _ _ _ _ (fun v3 M4 hh => ?_) h
    obtain ⟨hlM4, h⟩ := hh
    rw [lk66 hlM4, lr66_11 hlM4]
    refine ⟨?_, ?_⟩
    · replace h := h.1
      intro g
      replace h := h g
      refine ⟨rfl, ?_⟩
      refine ⟨rfl, ?_⟩
      refine q_WP_mono _ _ _ _ _ _ (fun v5 M6 hh => ?_) h
      obtain ⟨hlM6, h⟩ := hh
      rw [lk66 hlM6, lr66_12 hlM6]
      refine ⟨?_, ?_⟩
      · replace h := h.1
        intro g
        replace h := h g
        refine ⟨rfl, ?_⟩
        refine ⟨rfl, ?_⟩
        refine q_WP_mono _ _ _ _ _ _ (fun v7 M8 hh => ?_) h
        obtain ⟨hlM8, h⟩ := hh
        rw [lk66 hlM8, lr66_13 hlM8]
        refine ⟨?_, ?_⟩
        · replace h := h.1
          intro g
          replace h := h g
          refine ⟨rfl, ?_⟩
          refine ⟨rfl, ?_⟩
          refine q_WP_mono _ _ _ _ _ _ (fun v9 M10 hh => ?_) h
          obtain ⟨hlM10, h⟩ := hh
          refine ⟨?_, ?_⟩
          · replace h := h.1
            intro g
            replace h := h g
            exact h
          · replace h := h.2
            intro g
            replace h := h g
            exact h
        · replace h := h.2
          intro g
          replace h := h g
          exact h
      · replace h := h.2
        intro g
        replace h := h g
        exact h
    · replace h := h.2
      intro g
      replace h := h g
      exact h
  · replace h := h.2
    intro g
    replace h := h g
    exact h
theorem t_182_76 {d : Nat} {P : Int → qM → Prop} {y0 : Int} {M : qM} {c s : Nat} (hl : q_lay M) (h : ((y0 = (-1 : Int) → q_WP q_Pr d 154 [.inr (.inr 66), .inr (.inr 73)] M (fun v1 M2 => q_lay M2 ∧ ((v1 = 0 → q_WP q_Pr d 154 [.inr (.inr 66), .inr (.inr 74)] M2 (fun v3 M4 => q_lay M4 ∧ ((v3 = 0 → q_WP q_Pr d 154 [.inr (.inr 66), .inr (.inr 75)] M4 (fun v5 M6 => q_lay M6 ∧ ((v5 = 0 → q_WP q_Pr d 154 [.inr (.inr 66), .inr (.inr 76)] M6 (fun v7 M8 => q_lay M8 ∧ ((v7 = 0 → (P (-1 : Int) M8)) ∧ (¬ v7 = 0 → (P (8 : Int) M8))))) ∧ (¬ v5 = 0 → (P (7 : Int) M6))))) ∧ (¬ v3 = 0 → (P (6 : Int) M4))))) ∧ (¬ v1 = 0 → (P (5 : Int) M2))))) ∧ (¬ y0 = (-1 : Int) → (P y0 M)))) : q_At q_m182 (q_WP q_Pr d) P 76 [(0, .inr (.inr 66))] [.inl y0] M c s := by
  refine s_182_76 ?_
  rw [lk66 hl, lr66_14 hl]
  refine ⟨?_, ?_⟩
  · replace h := h.1
    intro g
    replace h := h g
    refine ⟨rfl, ?_⟩
    refine ⟨rfl, ?_⟩
    refine q_WP_mono _ _ _ _ _ _ (fun v1 M2 hh => ?_) h
    obtain ⟨hlM2, h⟩ := hh
    rw [lk66 hlM2, lr66_15 hlM2]
    refine ⟨?_, ?_⟩
    · replace h := h.1
      intro g
      replace h := h g
      refine ⟨rfl, ?_⟩
      refine ⟨rfl, ?_⟩
      refine q_WP_mono _ _ _ _ _ _ (fun v3 M4 hh => ?_) h
      obtain ⟨hlM4, h⟩ := hh
      rw [lk66 hlM4, lr66_16 hlM4]
      refine ⟨?_, ?_⟩
      · replace h := h.1
        intro g
        replace h := h g
        refine ⟨rfl, ?_⟩
        refine ⟨rfl, ?_⟩
        refine q_WP_mono _ _ _ _ _ _ (fun v5 M6 hh => ?_) h
        obtain ⟨hlM6, h⟩ := hh
        rw [lk66 hlM6, lr66_17 hlM6]
        refine ⟨?_, ?_⟩
        · replace h := h.1
          intro g
          replace h := h g
          refine ⟨rfl, ?_⟩
          refine ⟨rfl, ?_⟩
          refine q_WP_mono _ _ _ _ _ _ (fun v7 M8 hh => ?_) h
          obtain ⟨hlM8, h⟩ := hh
          refine ⟨?_, ?_⟩
          · replace h := h.1
            intro g
            replace h := h g
            exact h
          · replace h := h.2
            intro g
            replace h := h g
            exact h
        · replace h := h.2
          intro g
          replace h := h g
          exact h
      · replace h := h.2
        intro g
        replace h := h g
        exact h
    · replace h := h.2
      intro g
      replace h := h g
      exact h
  · replace h := h.2
    intro g
    replace h := h g
    exact h
theorem t_183_0 {d : Nat} {P : Int → qM → Prop} {M : qM} {c s : Nat} (hl : q_lay M) (h : ((¬ (q_nm M 101 (5 : Int)) = (20 : Int) → q_WP q_Pr d 182 [.inr (.inr 66)] M (fun v1 M2 => q_lay M2 ∧ ((¬ v1 = (-1 : Int) → ((0 ≤ (w32 ((100 : Int) + (q_nm M 101 (5 : Int)))) ∧ (w32 ((100 : Int) + (q_nm M 101 (5 : Int)))) < 120) ∧ (∀ M3 : qM, M3 = q_wn M2 102 (w32 ((100 : Int) + (q_nm M 101 (5 : Int)))) v1 → q_lay M3 → (∀ M4 : qM, M4 = q_wn M3 66 52 (0 : Int) → q_lay M4 → (∀ M5 : qM, M5 = q_wn M4 66 53 (0 : Int) → q_lay M5 → (∀ M6 : qM, M6 = q_wn M5 66 54 (0 : Int) → q_lay M6 → ((0 ≤ (w32 ((100 : Int) + (q_nm M 101 (5 : Int)))) ∧ (w32 ((100 : Int) + (q_nm M 101 (5 : Int)))) < 120) ∧ (∀ M7 : qM, M7 = q_wn M6 103 (w32 ((100 : Int) + (q_nm M 101 (5 : Int)))) (q_nm M6 66 50) → q_lay M7 → ((¬ (q_nm M7 66 5) = 0 → ((0 ≤ (w32 ((100 : Int) + (q_nm M 101 (5 : Int)))) ∧ (w32 ((100 : Int) + (q_nm M 101 (5 : Int)))) < 120) ∧ (∀ M8 : qM, M8 = q_wn M7 104 (w32 ((100 : Int) + (q_nm M 101 (5 : Int)))) (q_nm M7 66 50) → q_lay M8 → q_WP q_Pr d 155 [.inr (.inr 66), .inr (.inr 77)] M8 (fun v9 M10 => q_lay M10 ∧ ((¬ (q_nm M10 66 5) = 0 → ((0 ≤ (w32 ((100 : Int) + (q_nm M 101 (5 : Int)))) ∧ (w32 ((100 : Int) + (q_nm M 101 (5 : Int)))) < 120) ∧ (∀ M11 : qM, M11 = q_wn M10 105 (w32 ((100 : Int) + (q_nm M 101 (5 : Int)))) (q_nm M10 66 50) → q_lay M11 → q_WP q_Pr d 157 [.inr (.inr 66), .inl (59 : Int)] M11 (fun v12 M13 => q_lay M13 ∧ (∀ M14 : qM, M14 = q_wn M13 101 (5 : Int) (w32 ((q_nm M13 101 (5 : Int)) + (1 : Int))) → q_lay M14 → (P (0 : Int) M14)))))) ∧ ((q_nm M10 66 5) = 0 → q_WP q_Pr d 180 [.inr (.inr 66)] M10 (fun v15 M16 => q_lay M16 ∧ ((0 ≤ (w32 ((100 : Int) + (q_nm M 101 (5 : Int)))) ∧ (w32 ((100 : Int) + (q_nm M 101 (5 : Int)))) < 120) ∧ (∀ M17 : qM, M17 = q_wn M16 105 (w32 ((100 : Int) + (q_nm M 101 (5 : Int)))) (q_nm M16 66 50) → q_lay M17 → q_WP q_Pr d 157 [.inr (.inr 66), .inl (59 : Int)] M17 (fun v18 M19 => q_lay M19 ∧ (∀ M20 : qM, M20 = q_wn M19 101 (5 : Int) (w32 ((q_nm M19 101 (5 : Int)) + (1 : Int))) → q_lay M20 → (P (0 : Int) M20)))))))))))) ∧ ((q_nm M7 66 5) = 0 → q_WP q_Pr d 176 [.inr (.inr 66)] M7 (fun v21 M22 => q_lay M22 ∧ ((0 ≤ (w32 ((100 : Int) + (q_nm M 101 (5 : Int)))) ∧ (w32 ((100 : Int) + (q_nm M 101 (5 : Int)))) < 120) ∧ (∀ M23 : qM, M23 = q_wn M22 104 (w32 ((100 : Int) + (q_nm M 101 (5 : Int)))) (q_nm M22 66 50) → q_lay M23 → q_WP q_Pr d 155 [.inr (.inr 66), .inr (.inr 77)] M23 (fun v24 M25 => q_lay M25 ∧ ((¬ (q_nm M25 66 5) = 0 → ((0 ≤ (w32 ((100 : Int) + (q_nm M 101 (5 : Int)))) ∧ (w32 ((100 : Int) + (q_nm M 101 (5 : Int)))) < 120) ∧ (∀ M26 : qM, M26 = q_wn M25 105 (w32 ((100 : Int) + (q_nm M 101 (5 : Int)))) (q_nm M25 66 50) → q_lay M26 → q_WP q_Pr d 157 [.inr (.inr 66), .inl (59 : Int)] M26 (fun v27 M28 => q_lay M28 ∧ (∀ M29 : qM, M29 = q_wn M28 101 (5 : Int) (w32 ((q_nm M28 101 (5 : Int)) + (1 : Int))) → q_lay M29 → (P (0 : Int) M29)))))) ∧ ((q_nm M25 66 5) = 0 → q_WP q_Pr d 180 [.inr (.inr 66)] M25 (fun v30 M31 => q_lay M31 ∧ ((0 ≤ (w32 ((100 : Int) + (q_nm M 101 (5 : Int)))) ∧ (w32 ((100 : Int) + (q_nm M 101 (5 : Int)))) < 120) ∧ (∀ M32 : qM, M32 = q_wn M31 105 (w32 ((100 : Int) + (q_nm M 101 (5 : Int)))) (q_nm M31 66 50) → q_lay M32 → q_WP q_Pr d 157 [.inr (.inr 66), .inl (59 : Int)] M32 (fun v33 M34 => q_lay M34 ∧ (∀ M35 : qM, M35 = q_wn M34 101 (5 : Int) (w32 ((q_nm M34 101 (5 : Int)) + (1 : Int))) → q_lay M35 → (P (0 : Int) M35)))))))))))))))))))))) ∧ (v1 = (-1 : Int) → q_WP q_Pr d 149 [.inr (.inr 66), .inl (1 : Int), .inl (q_nm M 66 2)] M2 (fun v36 M37 => q_lay M37 ∧ ((0 ≤ (w32 ((100 : Int) + (q_nm M 101 (5 : Int)))) ∧ (w32 ((100 : Int) + (q_nm M 101 (5 : Int)))) < 120) ∧ (∀ M38 : qM, M38 = q_wn M37 102 (w32 ((100 : Int) + (q_nm M 101 (5 : Int)))) v1 → q_lay M38 → (∀ M39 : qM, M39 = q_wn M38 66 52 (0 : Int) → q_lay M39 → (∀ M40 : qM, M40 = q_wn M39 66 53 (0 : Int) → q_lay M40 → (∀ M41 : qM, M41 = q_wn M40 66 54 (0 : Int) → q_lay M41 → ((0 ≤ (w32 ((100 : Int) + (q_nm M 101 (5 : Int)))) ∧ (w32 ((100 : Int) + (q_nm M 101 (5 : Int)))) < 120) ∧ (∀ M42 : qM, M42 = q_wn M41 103 (w32 ((100 : Int) + (q_nm M 101 (5 : Int)))) (q_nm M41 66 50) → q_lay M42 → ((¬ (q_nm M42 66 5) = 0 → ((0 ≤ (w32 ((100 : Int) + (q_nm M 101 (5 : Int)))) ∧ (w32 ((100 : Int) + (q_nm M 101 (5 : Int)))) < 120) ∧ (∀ M43 : qM, M43 = q_wn M42 104 (w32 ((100 : Int) + (q_nm M 101 (5 : Int)))) (q_nm M42 66 50) → q_lay M43 → q_WP q_Pr d 155 [.inr (.inr 66), .inr (.inr 77)] M43 (fun v44 M45 => q_lay M45 ∧ ((¬ (q_nm M45 66 5) = 0 → ((0 ≤ (w32 ((100 : Int) + (q_nm M 101 (5 : Int)))) ∧ (w32 ((100 : Int) + (q_nm M 101 (5 : Int)))) < 120) ∧ (∀ M46 : qM, M46 = q_wn M45 105 (w32 ((100 : Int) + (q_nm M 101 (5 : Int)))) (q_nm M45 66 50) → q_lay M46 → q_WP q_Pr d 157 [.inr (.inr 66), .inl (59 : Int)] M46 (fun v47 M48 => q_lay M48 ∧ (∀ M49 : qM, M49 = q_wn M48 101 (5 : Int) (w32 ((q_nm M48 101 (5 : Int)) + (1 : Int))) → q_lay M49 → (P (0 : Int) M49)))))) ∧ ((q_nm M45 66 5) = 0 → q_WP q_Pr d 180 [.inr (.inr 66)] M45 (fun v50 M51 => q_lay M51 ∧ ((0 ≤ (w32 ((100 : Int) + (q_nm M 101 (5 : Int)))) ∧ (w32 ((100 : Int) + (q_nm M 101 (5 : Int)))) < 120) ∧ (∀ M52 : qM, M52 = q_wn M51 105 (w32 ((100 : Int) + (q_nm M 101 (5 : Int)))) (q_nm M51 66 50) → q_lay M52 → q_WP q_Pr d 157 [.inr (.inr 66), .inl (59 : Int)] M52 (fun v53 M54 => q_lay M54 ∧ (∀ M55 : qM, M55 = q_wn M54 101 (5 : Int) (w32 ((q_nm M54 101 (5 : Int)) + (1 : Int))) → q_lay M55 → (P (0 : Int) M55)))))))))))) ∧ ((q_nm M42 66 5) = 0 → q_WP q_Pr d 176 [.inr (.inr 66)] M42 (fun v56 M57 => q_lay M57 ∧ ((0 ≤ (w32 ((100 : Int) + (q_nm M 101 (5 : Int)))) ∧ (w32 ((100 : Int) + (q_nm M 101 (5 : Int)))) < 120) ∧ (∀ M58 : qM, M58 = q_wn M57 104 (w32 ((100 : Int) + (q_nm M 101 (5 : Int)))) (q_nm M57 66 50) → q_lay M58 → q_WP q_Pr d 155 [.inr (.inr 66), .inr (.inr 77)] M58 (fun v59 M60 => q_lay M60 ∧ ((¬ (q_nm M60 66 5) = 0 → ((0 ≤ (w32 ((100 : Int) + (q_nm M 101 (5 : Int)))) ∧ (w32 ((100 : Int) + (q_nm M 101 (5 : Int)))) < 120) ∧ (∀ M61 : qM, M61 = q_wn M60 105 (w32 ((100 : Int) + (q_nm M 101 (5 : Int)))) (q_nm M60 66 50) → q_lay M61 → q_WP q_Pr d 157 [.inr (.inr 66), .inl (59 : Int)] M61 (fun v62 M63 => q_lay M63 ∧ (∀ M64 : qM, M64 = q_wn M63 101 (5 : Int) (w32 ((q_nm M63 101 (5 : Int)) + (1 : Int))) → q_lay M64 → (P (0 : Int) M64)))))) ∧ ((q_nm M60 66 5) = 0 → q_WP q_Pr d 180 [.inr (.inr 66)] M60 (fun v65 M66 => q_lay M66 ∧ ((0 ≤ (w32 ((100 : Int) + (q_nm M 101 (5 : Int)))) ∧ (w32 ((100 : Int) + (q_nm M 101 (5 : Int)))) < 120) ∧ (∀ M67 : qM, M67 = q_wn M66 105 (w32 ((100 : Int) + (q_nm M 101 (5 : Int)))) (q_nm M66 66 50) → q_lay M67 → q_WP q_Pr d 157 [.inr (.inr 66), .inl (59 : Int)] M67 (fun v68 M69 => q_lay M69 ∧ (∀ M70 : qM, M70 = q_wn M69 101 (5 : Int) (w32 ((q_nm M69 101 (5 : Int)) + (1 : Int))) → q_lay M70 → (P (0 : Int) M70)))))))))))))))))))))))))) ∧ ((q_nm M 101 (5 : Int)) = (20 : Int) → q_WP q_Pr d 149 [.inr (.inr 66), .inl (5 : Int), .inl (q_nm M 66 2)] M (fun v71 M72 => q_lay M72 ∧ (P (0 : Int) M72))))) : q_At q_m183 (q_WP q_Pr d) P 0 [(0, .inr (.inr 66))] [] M c s := by
  refine s_183_0 ?_
  rw [lk66 hl, lr66_44 hl, ll101 hl, lk101 hl]
  refine ⟨rfl, ?_⟩
  refine ⟨rfl, ?_⟩
  refine ⟨⟨rfl, ⟨by decide, by decide⟩⟩, ?_⟩
  refine ⟨rfl, ?_⟩
  refine ⟨⟨rfl, ⟨by decide, by decide⟩⟩, ?_⟩
  refine ⟨?_, ?_⟩
  · replace h := h.1
    intro g
    replace h := h g
    refine ⟨rfl, ?_⟩
    refine q_WP_mono _ _ _ _ _ _ (fun v1 M2 hh => ?_) h
    obtain ⟨hlM2, h⟩ := hh
    rw [lk66 hlM2, lr66_45 hlM2, ll102 hlM2, lk102 hlM2]
    refine ⟨?_, ?_⟩
    · replace h := h.1
      intro g
      replace h := h g
      refine ⟨rfl, ?_⟩
      refine ⟨⟨⟨by decide, rfl⟩, h.1⟩, ?_⟩
      replace h := h.2
      intro M3
      have hlM3 : q_lay M3 := q_lay_wn hlM2
      replace h := h M3 rfl hlM3
      rw [lk66 hlM3]
      refine ⟨rfl, ?_⟩
      intro M4
      have hlM4 : q_lay M4 := q_lay_wn hlM3
      replace h := h M4 rfl hlM4
      rw [lk66 hlM4]
      refine ⟨rfl, ?_⟩
      intro M5
      have hlM5 : q_lay M5 := q_lay_wn hlM4
      replace h := h M5 rfl hlM5
      rw [lk66 hlM5]
      refine ⟨rfl, ?_⟩
      intro M6
      have hlM6 : q_lay M6 := q_lay_wn hlM5
      replace h := h M6 rfl hlM6
      rw [lk66 hlM6, lr66_46 hlM6, ll103 hlM6, lk103 hlM6]
      refine ⟨rfl, ?_⟩
      refine ⟨rfl, ?_⟩
      refine ⟨⟨⟨by decide, rfl⟩, h.1⟩, ?_⟩
      replace h := h.2
      intro M7
      have hlM7 : q_lay M7 := q_lay_wn hlM6
      replace h := h M7 rfl hlM7
      rw [lk66 hlM7, lr66_47 hlM7, ll104 hlM7, lk104 hlM7]
      refine ⟨rfl, ?_⟩
      refine ⟨?_, ?_⟩
      · replace h := h.1
        intro g
        replace h := h g
        refine ⟨rfl, ?_⟩
        refine ⟨rfl, ?_⟩
        refine ⟨⟨⟨by decide, rfl⟩, h.1⟩, ?_⟩
        replace h := h.2
        intro M8
        have hlM8 : q_lay M8 := q_lay_wn hlM7
        replace h := h M8 rfl hlM8
        rw [lk66 hlM8, lr66_18 hlM8]
        refine ⟨rfl, ?_⟩
        refine ⟨rfl, ?_⟩
        refine q_WP_mono _ _ _ _ _ _ (fun v9 M10 hh => ?_) h
        obtain ⟨hlM10, h⟩ := hh
        rw [lk66 hlM10, lr66_48 hlM10, ll105 hlM10, lk105 hlM10]
        refine ⟨rfl, ?_⟩
        refine ⟨?_, ?_⟩
        · replace h := h.1
          intro g
          replace h := h g
          refine ⟨rfl, ?_⟩
          refine ⟨rfl, ?_⟩
          refine ⟨⟨⟨by decide, rfl⟩, h.1⟩, ?_⟩
          replace h := h.2
          intro M11
          have hlM11 : q_lay M11 := q_lay_wn hlM10
          replace h := h M11 rfl hlM11
          rw [lk66 hlM11]
          refine ⟨rfl, ?_⟩
          refine q_WP_mono _ _ _ _ _ _ (fun v12 M13 hh => ?_) h
          obtain ⟨hlM13, h⟩ := hh
          rw [lk66 hlM13, lr66_44 hlM13, ll101 hlM13, lk101 hlM13]
          refine ⟨rfl, ?_⟩
          refine ⟨⟨rfl, ⟨by decide, by decide⟩⟩, ?_⟩
          refine ⟨⟨⟨by decide, rfl⟩, ⟨by decide, by decide⟩⟩, ?_⟩
          intro M14
          have hlM14 : q_lay M14 := q_lay_wn hlM13
          replace h := h M14 rfl hlM14
          exact h
        · replace h := h.2
          intro g
          replace h := h g
          refine ⟨rfl, ?_⟩
          refine q_WP_mono _ _ _ _ _ _ (fun v15 M16 hh => ?_) h
          obtain ⟨hlM16, h⟩ := hh
          rw [lk66 hlM16, lr66_48 hlM16, ll105 hlM16, lk105 hlM16]
          refine ⟨rfl, ?_⟩
          refine ⟨rfl, ?_⟩
          refine ⟨⟨⟨by decide, rfl⟩, h.1⟩, ?_⟩
          replace h := h.2
          intro M17
          have hlM17 : q_lay M17 := q_lay_wn hlM16
          replace h := h M17 rfl hlM17
          rw [lk66 hlM17]
          refine ⟨rfl, ?_⟩
          refine q_WP_mono _ _ _ _ _ _ (fun v18 M19 hh => ?_) h
          obtain ⟨hlM19, h⟩ := hh
          rw [lk66 hlM19, lr66_44 hlM19, ll101 hlM19, lk101 hlM19]
          refine ⟨rfl, ?_⟩
          refine ⟨⟨rfl, ⟨by decide, by decide⟩⟩, ?_⟩
          refine ⟨⟨⟨by decide, rfl⟩, ⟨by decide, by decide⟩⟩, ?_⟩
          intro M20
          have hlM20 : q_lay M20 := q_lay_wn hlM19
          replace h := h M20 rfl hlM20
          exact h
      · replace h := h.2
        intro g
        replace h := h g
        refine ⟨rfl, ?_⟩
        refine q_WP_mono _ _ _ _ _ _ (fun v21 M22 hh => ?_) h
        obtain ⟨hlM22, h⟩ := hh
        rw [lk66 hlM22, lr66_47 hlM22, ll104 hlM22, lk104 hlM22]
        refine ⟨rfl, ?_⟩
        refine ⟨rfl, ?_⟩
        refine ⟨⟨⟨by decide, rfl⟩, h.1⟩, ?_⟩
        replace h := h.2
        intro M23
        have hlM23 : q_lay M23 := q_lay_wn hlM22
        replace h := h M23 rfl hlM23
        rw [lk66 hlM23, lr66_18 hlM23]
        refine ⟨rfl, ?_⟩
        refine ⟨rfl, ?_⟩
        refine q_WP_mono _ _ _ _ _ _ (fun v24 M25 hh => ?_) h
        obtain ⟨hlM25, h⟩ := hh
        rw [lk66 hlM25, lr66_48 hlM25, ll105 hlM25, lk105 hlM25]
        refine ⟨rfl, ?_⟩
        refine ⟨?_, ?_⟩
        · replace h := h.1
          intro g
          replace h := h g
          refine ⟨rfl, ?_⟩
          refine ⟨rfl, ?_⟩
          refine ⟨⟨⟨by decide, rfl⟩, h.1⟩, ?_⟩
          replace h := h.2
          intro M26
          have hlM26 : q_lay M26 := q_lay_wn hlM25
          replace h := h M26 rfl hlM26
          rw [lk66 hlM26]
          refine ⟨rfl, ?_⟩
          refine q_WP_mono _ _ _ _ _ _ (fun v27 M28 hh => ?_) h
          obtain ⟨hlM28, h⟩ := hh
          rw [lk66 hlM28, lr66_44 hlM28, ll101 hlM28, lk101 hlM28]
          refine ⟨rfl, ?_⟩
          refine ⟨⟨rfl, ⟨by decide, by decide⟩⟩, ?_⟩
          refine ⟨⟨⟨by decide, rfl⟩, ⟨by decide, by decide⟩⟩, ?_⟩
          intro M29
          have hlM29 : q_lay M29 := q_lay_wn hlM28
          replace h := h M29 rfl hlM29
          exact h
        · replace h := h.2
          intro g
          replace h := h g
          refine ⟨rfl, ?_⟩
          refine q_WP_mono _ _ _ _ _ _ (fun v30 M31 hh => ?_) h
          obtain ⟨hlM31, h⟩ := hh
          rw [lk66 hlM31, lr66_48 hlM31, ll105 hlM31, lk105 hlM31]
          refine ⟨rfl, ?_⟩
          refine ⟨rfl, ?_⟩
          refine ⟨⟨⟨by decide, rfl⟩, h.1⟩, ?_⟩
          replace h := h.2
          intro M32
          have hlM32 : q_lay M32 := q_lay_wn hlM31
          replace h := h M32 rfl hlM32
          rw [lk66 hlM32]
          refine ⟨rfl, ?_⟩
          refine q_WP_mono _ _ _ _ _ _ (fun v33 M34 hh => ?_) h
          obtain ⟨hlM34, h⟩ := hh
          rw [lk66 hlM34, lr66_44 hlM34, ll101 hlM34, lk101 hlM34]
          refine ⟨rfl, ?_⟩
          refine ⟨⟨rfl, ⟨by decide, by decide⟩⟩, ?_⟩
          refine ⟨⟨⟨by decide, rfl⟩, ⟨by decide, by decide⟩⟩, ?_⟩
          intro M35
          have hlM35 : q_lay M35 := q_lay_wn hlM34
          replace h := h M35 rfl hlM35
          exact h
    · replace h := h.2
      intro g
      replace h := h g
      refine ⟨rfl, ?_⟩
      refine q_WP_mono _ _ _ _ _ _ (fun v36 M37 hh => ?_) h
      obtain ⟨hlM37, h⟩ := hh
      rw [lk66 hlM37, lr66_45 hlM37, ll102 hlM37, lk102 hlM37]
      refine ⟨rfl, ?_⟩
      refine ⟨⟨⟨by decide, rfl⟩, h.1⟩, ?_⟩
      replace h := h.2
      intro M38
      have hlM38 : q_lay M38 := q_lay_wn hlM37
      replace h := h M38 rfl hlM38
      rw [lk66 hlM38]
      refine ⟨rfl, ?_⟩
      intro M39
      have hlM39 : q_lay M39 := q_lay_wn hlM38
      replace h := h M39 rfl hlM39
      rw [lk66 hlM39]
      refine ⟨rfl, ?_⟩
      intro M40
      have hlM40 : q_lay M40 := q_lay_wn hlM39
      replace h := h M40 rfl hlM40
      rw [lk66 hlM40]
      refine ⟨rfl, ?_⟩
      intro M41
      have hlM41 : q_lay M41 := q_lay_wn hlM40
      replace h := h M41 rfl hlM41
      rw [lk66 hlM41, lr66_46 hlM41, ll103 hlM41, lk103 hlM41]
      refine ⟨rfl, ?_⟩
      refine ⟨rfl, ?_⟩
      refine ⟨⟨⟨by decide, rfl⟩, h.1⟩, ?_⟩
      replace h := h.2
      intro M42
      have hlM42 : q_lay M42 := q_lay_wn hlM41
      replace h := h M42 rfl hlM42
      rw [lk66 hlM42, lr66_47 hlM42, ll104 hlM42, lk104 hlM42]
      refine ⟨rfl, ?_⟩
      refine ⟨?_, ?_⟩
      · replace h := h.1
        intro g
        replace h := h g
        refine ⟨rfl, ?_⟩
        refine ⟨rfl, ?_⟩
        refine ⟨⟨⟨by decide, rfl⟩, h.1⟩, ?_⟩
        replace h := h.2
        intro M43
        have hlM43 : q_lay M43 := q_lay_wn hlM42
        replace h := h M43 rfl hlM43
        rw [lk66 hlM43, lr66_18 hlM43]
        refine ⟨rfl, ?_⟩
        refine ⟨rfl, ?_⟩
        refine q_WP_mono _ _ _ _ _ _ (fun v44 M45 hh => ?_) h
        obtain ⟨hlM45, h⟩ := hh
        rw [lk66 hlM45, lr66_48 hlM45, ll105 hlM45, lk105 hlM45]
        refine ⟨rfl, ?_⟩
        refine ⟨?_, ?_⟩
        · replace h := h.1
          intro g
          replace h := h g
          refine ⟨rfl, ?_⟩
          refine ⟨rfl, ?_⟩
          refine ⟨⟨⟨by decide, rfl⟩, h.1⟩, ?_⟩
          replace h := h.2
          intro M46
          have hlM46 : q_lay M46 := q_lay_wn hlM45
          replace h := h M46 rfl hlM46
          rw [lk66 hlM46]
          refine ⟨rfl, ?_⟩
          refine q_WP_mono _ _ _ _ _ _ (fun v47 M48 hh => ?_) h
          obtain ⟨hlM48, h⟩ := hh
          rw [lk66 hlM48, lr66_44 hlM48, ll101 hlM48, lk101 hlM48]
          refine ⟨rfl, ?_⟩
          refine ⟨⟨rfl, ⟨by decide, by decide⟩⟩, ?_⟩
          refine ⟨⟨⟨by decide, rfl⟩, ⟨by decide, by decide⟩⟩, ?_⟩
          intro M49
          have hlM49 : q_lay M49 := q_lay_wn hlM48
          replace h := h M49 rfl hlM49
          exact h
        · replace h := h.2
          intro g
          replace h := h g
          refine ⟨rfl, ?_⟩
          refine q_WP_mono _ _ _ _ _ _ (fun v50 M51 hh => ?_) h
          obtain ⟨hlM51, h⟩ := hh
          rw [lk66 hlM51, lr66_48 hlM51, ll105 hlM51, lk105 hlM51]
          refine ⟨rfl, ?_⟩
          refine ⟨rfl, ?_⟩
          refine ⟨⟨⟨by decide, rfl⟩, h.1⟩, ?_⟩
          replace h := h.2
          intro M52
          have hlM52 : q_lay M52 := q_lay_wn hlM51
          replace h := h M52 rfl hlM52
          rw [lk66 hlM52]
          refine ⟨rfl, ?_⟩
          refine q_WP_mono _ _ _ _ _ _ (fun v53 M54 hh => ?_) h
          obtain ⟨hlM54, h⟩ := hh
          rw [lk66 hlM54, lr66_44 hlM54, ll101 hlM54, lk101 hlM54]
          refine ⟨rfl, ?_⟩
          refine ⟨⟨rfl, ⟨by decide, by decide⟩⟩, ?_⟩
          refine ⟨⟨⟨by decide, rfl⟩, ⟨by decide, by decide⟩⟩, ?_⟩
          intro M55
          have hlM55 : q_lay M55 := q_lay_wn hlM54
          replace h := h M55 rfl hlM55
          exact h
      · replace h := h.2
        intro g
        replace h := h g
        refine ⟨rfl, ?_⟩
        refine q_WP_mono _ _ _ _ _ _ (fun v56 M57 hh => ?_) h
        obtain ⟨hlM57, h⟩ := hh
        rw [lk66 hlM57, lr66_47 hlM57, ll104 hlM57, lk104 hlM57]
        refine ⟨rfl, ?_⟩
        refine ⟨rfl, ?_⟩
        refine ⟨⟨⟨by decide, rfl⟩, h.1⟩, ?_⟩
        replace h := h.2
        intro M58
        have hlM58 : q_lay M58 := q_lay_wn hlM57
        replace h := h M58 rfl hlM58
        rw [lk66 hlM58, lr66_18 hlM58]
        refine ⟨rfl, ?_⟩
        refine ⟨rfl, ?_⟩
        refine q_WP_mono _ _ _ _ _ _ (fun v59 M60 hh => ?_) h
        obtain ⟨hlM60, h⟩ := hh
        rw [lk66 hlM60, lr66_48 hlM60, ll105 hlM60, lk105 hlM60]
        refine ⟨rfl, ?_⟩
        refine ⟨?_, ?_⟩
        · replace h := h.1
          intro g
          replace h := h g
          refine ⟨rfl, ?_⟩
          refine ⟨rfl, ?_⟩
          refine ⟨⟨⟨by decide, rfl⟩, h.1⟩, ?_⟩
          replace h := h.2
          intro M61
          have hlM61 : q_lay M61 := q_lay_wn hlM60
          replace h := h M61 rfl hlM61
          rw [lk66 hlM61]
          refine ⟨rfl, ?_⟩
          refine q_WP_mono _ _ _ _ _ _ (fun v62 M63 hh => ?_) h
          obtain ⟨hlM63, h⟩ := hh
          rw [lk66 hlM63, lr66_44 hlM63, ll101 hlM63, lk101 hlM63]
          refine ⟨rfl, ?_⟩
          refine ⟨⟨rfl, ⟨by decide, by decide⟩⟩, ?_⟩
          refine ⟨⟨⟨by decide, rfl⟩, ⟨by decide, by decide⟩⟩, ?_⟩
          intro M64
          have hlM64 : q_lay M64 := q_lay_wn hlM63
          replace h := h M64 rfl hlM64
          exact h
        · replace h := h.2
          intro g
          replace h := h g
          refine ⟨rfl, ?_⟩
          refine q_WP_mono _ _ _ _ _ _ (fun v65 M66 hh => ?_) h
          obtain ⟨hlM66, h⟩ := hh
          rw [lk66 hlM66, lr66_48 hlM66, ll105 hlM66, lk105 hlM66]
          refine ⟨rfl, ?_⟩
          refine ⟨rfl, ?_⟩
          refine ⟨⟨⟨by decide, rfl⟩, h.1⟩, ?_⟩
          replace h := h.2
          intro M67
          have hlM67 : q_lay M67 := q_lay_wn hlM66
          replace h := h M67 rfl hlM67
          rw [lk66 hlM67]
          refine ⟨rfl, ?_⟩
          refine q_WP_mono _ _ _ _ _ _ (fun v68 M69 hh => ?_) h
          obtain ⟨hlM69, h⟩ := hh
          rw [lk66 hlM69, lr66_44 hlM69, ll101 hlM69, lk101 hlM69]
          refine ⟨rfl, ?_⟩
          refine ⟨⟨rfl, ⟨by decide, by decide⟩⟩, ?_⟩
          refine ⟨⟨⟨by decide, rfl⟩, ⟨by decide, by decide⟩⟩, ?_⟩
          intro M70
          have hlM70 : q_lay M70 := q_lay_wn hlM69
          replace h := h M70 rfl hlM70
          exact h
  · replace h := h.2
    intro g
    replace h := h g
    refine ⟨rfl, ?_⟩
    refine q_WP_mono _ _ _ _ _ _ (fun v71 M72 hh => ?_) h
    obtain ⟨hlM72, h⟩ := hh
    exact h
theorem t_184_0 {d : Nat} {P : Int → qM → Prop} {x1 : Int} {M : qM} {c s : Nat} (hl : q_lay M) (h : (∀ M1 : qM, M1 = q_wn M 66 3 (q_nm M 66 1) → q_lay M1 → (∀ M2 : qM, M2 = q_wn M1 66 1 (0 : Int) → q_lay M2 → (∀ M3 : qM, M3 = q_wn M2 66 2 (0 : Int) → q_lay M3 → (∀ M4 : qM, M4 = q_wn M3 66 4 (-1 : Int) → q_lay M4 → (∀ M5 : qM, M5 = q_wn M4 66 5 (0 : Int) → q_lay M5 → (∀ M6 : qM, M6 = q_wn M5 66 6 (-1 : Int) → q_lay M6 → (∀ M7 : qM, M7 = q_wn M6 101 (5 : Int) (0 : Int) → q_lay M7 → (∀ M8 : qM, M8 = q_wn M7 66 50 (0 : Int) → q_lay M8 → (q_At q_m184 (q_WP q_Pr d) P 45 [(0, .inr (.inr 66)), (1, .inl x1)] [] M8 c s)))))))))) : q_At q_m184 (q_WP q_Pr d) P 0 [(0, .inr (.inr 66)), (1, .inl x1)] [] M c s := by
  refine s_184_0 ?_
  rw [lk66 hl]
  refine ⟨rfl, ?_⟩
  refine ⟨rfl, ?_⟩
  intro M1
  have hlM1 : q_lay M1 := q_lay_wn hl
  replace h := h M1 rfl hlM1
  rw [lk66 hlM1]
  refine ⟨rfl, ?_⟩
  intro M2
  have hlM2 : q_lay M2 := q_lay_wn hlM1
  replace h := h M2 rfl hlM2
  rw [lk66 hlM2]
  refine ⟨rfl, ?_⟩
  intro M3
  have hlM3 : q_lay M3 := q_lay_wn hlM2
  replace h := h M3 rfl hlM3
  rw [lk66 hlM3]
  refine ⟨rfl, ?_⟩
  intro M4
  have hlM4 : q_lay M4 := q_lay_wn hlM3
  replace h := h M4 rfl hlM4
  rw [lk66 hlM4]
  refine ⟨rfl, ?_⟩
  intro M5
  have hlM5 : q_lay M5 := q_lay_wn hlM4
  replace h := h M5 rfl hlM5
  rw [lk66 hlM5]
  refine ⟨rfl, ?_⟩
  intro M6
  have hlM6 : q_lay M6 := q_lay_wn hlM5
  replace h := h M6 rfl hlM6
  rw [lk66 hlM6, lr66_44 hlM6, ll101 hlM6, lk101 hlM6]
  refine ⟨rfl, ?_⟩
  refine ⟨⟨⟨by decide, rfl⟩, ⟨by decide, by decide⟩⟩, ?_⟩
  intro M7
  have hlM7 : q_lay M7 := q_lay_wn hlM6
  replace h := h M7 rfl hlM7
  rw [lk66 hlM7]
  refine ⟨rfl, ?_⟩
  intro M8
  have hlM8 : q_lay M8 := q_lay_wn hlM7
  replace h := h M8 rfl hlM8
  exact h
theorem t_184_45 {d : Nat} {P : Int → qM → Prop} {x1 : Int} {M : qM} {c s : Nat} (hl : q_lay M) (h : ((¬ (q_nm M 66 5) = 0 → (∀ M1 : qM, M1 = q_wn M 66 7 (q_nm M 66 5) → q_lay M1 → (∀ M2 : qM, M2 = q_wn M1 66 8 (q_nm M1 66 6) → q_lay M2 → (((q_nm M2 66 5) = 0 → ((0 ≤ x1 ∧ x1 < 6) ∧ (∀ M3 : qM, M3 = q_wn M2 100 x1 (1 : Int) → q_lay M3 → ((0 ≤ x1 ∧ x1 < 6) ∧ (∀ M4 : qM, M4 = q_wn M3 101 x1 (q_nm M3 101 (5 : Int)) → q_lay M4 → (q_At q_m184 (q_WP q_Pr d) P 113 [(0, .inr (.inr 66)), (1, .inl x1), (2, .inl (0 : Int))] [] M4 c s)))))) ∧ (¬ (q_nm M2 66 5) = 0 → (P (-1 : Int) M2)))))) ∧ ((q_nm M 66 5) = 0 → q_WP q_Pr d 152 [.inr (.inr 66)] M (fun v5 M6 => q_lay M6 ∧ ((v5 = (-1 : Int) → (∀ M7 : qM, M7 = q_wn M6 66 7 (q_nm M6 66 5) → q_lay M7 → (∀ M8 : qM, M8 = q_wn M7 66 8 (q_nm M7 66 6) → q_lay M8 → (((q_nm M8 66 5) = 0 → ((0 ≤ x1 ∧ x1 < 6) ∧ (∀ M9 : qM, M9 = q_wn M8 100 x1 (1 : Int) → q_lay M9 → ((0 ≤ x1 ∧ x1 < 6) ∧ (∀ M10 : qM, M10 = q_wn M9 101 x1 (q_nm M9 101 (5 : Int)) → q_lay M10 → (q_At q_m184 (q_WP q_Pr d) P 113 [(0, .inr (.inr 66)), (1, .inl x1), (2, .inl (0 : Int))] [] M10 c s)))))) ∧ (¬ (q_nm M8 66 5) = 0 → (P (-1 : Int) M8)))))) ∧ (¬ v5 = (-1 : Int) → q_WP q_Pr d 183 [.inr (.inr 66)] M6 (fun v11 M12 => q_lay M12 ∧ (q_At q_m184 (q_WP q_Pr d) P 45 [(0, .inr (.inr 66)), (1, .inl x1)] [] M12 c s)))))))) : q_At q_m184 (q_WP q_Pr d) P 45 [(0, .inr (.inr 66)), (1, .inl x1)] [] M c s := by
  refine s_184_45 ?_
  rw [lk66 hl]
  refine ⟨rfl, ?_⟩
  refine ⟨?_, ?_⟩
  · replace h := h.1
    intro g
    replace h := h g
    refine ⟨rfl, ?_⟩
    refine ⟨rfl, ?_⟩
    intro M1
    have hlM1 : q_lay M1 := q_lay_wn hl
    replace h := h M1 rfl hlM1
    rw [lk66 hlM1]
    refine ⟨rfl, ?_⟩
    refine ⟨rfl, ?_⟩
    intro M2
    have hlM2 : q_lay M2 := q_lay_wn hlM1
    replace h := h M2 rfl hlM2
    rw [lk66 hlM2, lr66_43 hlM2, ll100 hlM2, lk100 hlM2, q_bs16_1]
    refine ⟨rfl, ?_⟩
    refine ⟨?_, ?_⟩
    · replace h := h.1
      intro g
      replace h := h g
      refine ⟨rfl, ?_⟩
      refine ⟨⟨Or.inr rfl, h.1⟩, ?_⟩
      replace h := h.2
      intro M3
      have hlM3 : q_lay M3 := q_lay_wn hlM2
      replace h := h M3 rfl hlM3
      rw [lk66 hlM3, lr66_44 hlM3, ll101 hlM3, lk101 hlM3]
      refine ⟨rfl, ?_⟩
      refine ⟨rfl, ?_⟩
      refine ⟨⟨rfl, ⟨by decide, by decide⟩⟩, ?_⟩
      refine ⟨⟨⟨by decide, rfl⟩, h.1⟩, ?_⟩
      replace h := h.2
      intro M4
      have hlM4 : q_lay M4 := q_lay_wn hlM3
      replace h := h M4 rfl hlM4
      exact h
    · replace h := h.2
      intro g
      replace h := h g
      exact h
  · replace h := h.2
    intro g
    replace h := h g
    refine ⟨rfl, ?_⟩
    refine q_WP_mono _ _ _ _ _ _ (fun v5 M6 hh => ?_) h
    obtain ⟨hlM6, h⟩ := hh
    rw [lk66 hlM6]
    refine ⟨?_, ?_⟩
    · replace h := h.1
      intro g
      replace h := h g
      refine ⟨rfl, ?_⟩
      refine ⟨rfl, ?_⟩
      intro M7
      have hlM7 : q_lay M7 := q_lay_wn hlM6
      replace h := h M7 rfl hlM7
      rw [lk66 hlM7]
      refine ⟨rfl, ?_⟩
      refine ⟨rfl, ?_⟩
      intro M8
      have hlM8 : q_lay M8 := q_lay_wn hlM7
      replace h := h M8 rfl hlM8
      rw [lk66 hlM8, lr66_43 hlM8, ll100 hlM8, lk100 hlM8, q_bs16_1]
      refine ⟨rfl, ?_⟩
      refine ⟨?_, ?_⟩
      · replace h := h.1
        intro g
        replace h := h g
        refine ⟨rfl, ?_⟩
        refine ⟨⟨Or.inr rfl, h.1⟩, ?_⟩
        replace h := h.2
        intro M9
        have hlM9 : q_lay M9 := q_lay_wn hlM8
        replace h := h M9 rfl hlM9
        rw [lk66 hlM9, lr66_44 hlM9, ll101 hlM9, lk101 hlM9]
        refine ⟨rfl, ?_⟩
        refine ⟨rfl, ?_⟩
        refine ⟨⟨rfl, ⟨by decide, by decide⟩⟩, ?_⟩
        refine ⟨⟨⟨by decide, rfl⟩, h.1⟩, ?_⟩
        replace h := h.2
        intro M10
        have hlM10 : q_lay M10 := q_lay_wn hlM9
        replace h := h M10 rfl hlM10
        exact h
      · replace h := h.2
        intro g
        replace h := h g
        exact h
    · replace h := h.2
      intro g
      replace h := h g
      refine ⟨rfl, ?_⟩
      refine q_WP_mono _ _ _ _ _ _ (fun v11 M12 hh => ?_) h
      obtain ⟨hlM12, h⟩ := hh
      exact h
theorem t_184_113 {d : Nat} {P : Int → qM → Prop} {x1 x2 : Int} {M : qM} {c s : Nat} (hl : q_lay M) (h : (((q_nm M 101 (5 : Int)) ≤ x2 → (q_At q_m184 (q_WP q_Pr d) P 196 [(0, .inr (.inr 66)), (1, .inl x1), (2, .inl (0 : Int))] [] M c s)) ∧ (x2 < (q_nm M 101 (5 : Int)) → ((0 ≤ (w32 ((100 : Int) + x2)) ∧ (w32 ((100 : Int) + x2)) < 120) ∧ ((0 ≤ (w32 ((w32 ((20 : Int) * x1)) + x2)) ∧ (w32 ((w32 ((20 : Int) * x1)) + x2)) < 120) ∧ (∀ M1 : qM, M1 = q_wn M 102 (w32 ((w32 ((20 : Int) * x1)) + x2)) (q_nm M 102 (w32 ((100 : Int) + x2))) → q_lay M1 → ((0 ≤ (w32 ((100 : Int) + x2)) ∧ (w32 ((100 : Int) + x2)) < 120) ∧ ((0 ≤ (w32 ((w32 ((20 : Int) * x1)) + x2)) ∧ (w32 ((w32 ((20 : Int) * x1)) + x2)) < 120) ∧ (∀ M2 : qM, M2 = q_wn M1 103 (w32 ((w32 ((20 : Int) * x1)) + x2)) (q_nm M1 103 (w32 ((100 : Int) + x2))) → q_lay M2 → ((0 ≤ (w32 ((100 : Int) + x2)) ∧ (w32 ((100 : Int) + x2)) < 120) ∧ ((0 ≤ (w32 ((w32 ((20 : Int) * x1)) + x2)) ∧ (w32 ((w32 ((20 : Int) * x1)) + x2)) < 120) ∧ (∀ M3 : qM, M3 = q_wn M2 104 (w32 ((w32 ((20 : Int) * x1)) + x2)) (q_nm M2 104 (w32 ((100 : Int) + x2))) → q_lay M3 → ((0 ≤ (w32 ((100 : Int) + x2)) ∧ (w32 ((100 : Int) + x2)) < 120) ∧ ((0 ≤ (w32 ((w32 ((20 : Int) * x1)) + x2)) ∧ (w32 ((w32 ((20 : Int) * x1)) + x2)) < 120) ∧ (∀ M4 : qM, M4 = q_wn M3 105 (w32 ((w32 ((20 : Int) * x1)) + x2)) (q_nm M3 105 (w32 ((100 : Int) + x2))) → q_lay M4 → (q_At q_m184 (q_WP q_Pr d) P 113 [(0, .inr (.inr 66)), (1, .inl x1), (2, .inl (w32 (x2 + 1)))] [] M4 c s)))))))))))))))) : q_At q_m184 (q_WP q_Pr d) P 113 [(0, .inr (.inr 66)), (1, .inl x1), (2, .inl x2)] [] M c s := by
  refine s_184_113 ?_
  rw [lk66 hl, lr66_44 hl, ll101 hl, lk101 hl, lr66_45 hl, ll102 hl, lk102 hl]
  refine ⟨rfl, ?_⟩
  refine ⟨⟨rfl, ⟨by decide, by decide⟩⟩, ?_⟩
  refine ⟨?_, ?_⟩
  · replace h := h.1
    intro g
    replace h := h g
    exact h
  · replace h := h.2
    intro g
    replace h := h g
    refine ⟨rfl, ?_⟩
    refine ⟨rfl, ?_⟩
    refine ⟨⟨rfl, h.1⟩, ?_⟩
    replace h := h.2
    refine ⟨⟨⟨by decide, rfl⟩, h.1⟩, ?_⟩
    replace h := h.2
    intro M1
    have hlM1 : q_lay M1 := q_lay_wn hl
    replace h := h M1 rfl hlM1
    rw [lk66 hlM1, lr66_46 hlM1, ll103 hlM1, lk103 hlM1]
    refine ⟨rfl, ?_⟩
    refine ⟨rfl, ?_⟩
    refine ⟨⟨rfl, h.1⟩, ?_⟩
    replace h := h.2
    refine ⟨⟨⟨by decide, rfl⟩, h.1⟩, ?_⟩
    replace h := h.2
    intro M2
    have hlM2 : q_lay M2 := q_lay_wn hlM1
    replace h := h M2 rfl hlM2
    rw [lk66 hlM2, lr66_47 hlM2, ll104 hlM2, lk104 hlM2]
    refine ⟨rfl, ?_⟩
    refine ⟨rfl, ?_⟩
    refine ⟨⟨rfl, h.1⟩, ?_⟩
    replace h := h.2
    refine ⟨⟨⟨by decide, rfl⟩, h.1⟩, ?_⟩
    replace h := h.2
    intro M3
    have hlM3 : q_lay M3 := q_lay_wn hlM2
    replace h := h M3 rfl hlM3
    rw [lk66 hlM3, lr66_48 hlM3, ll105 hlM3, lk105 hlM3]
    refine ⟨rfl, ?_⟩
    refine ⟨rfl, ?_⟩
    refine ⟨⟨rfl, h.1⟩, ?_⟩
    replace h := h.2
    refine ⟨⟨⟨by decide, rfl⟩, h.1⟩, ?_⟩
    replace h := h.2
    intro M4
    have hlM4 : q_lay M4 := q_lay_wn hlM3
    replace h := h M4 rfl hlM4
    exact h
theorem t_184_196 {d : Nat} {P : Int → qM → Prop} {x1 x2 : Int} {M : qM} {c s : Nat} (hl : q_lay M) (h : (((q_nm M 66 50) ≤ x2 → ((0 ≤ x1 ∧ x1 < 6) ∧ (P (q_nm M 101 x1) M))) ∧ (x2 < (q_nm M 66 50) → ((0 ≤ (w32 ((10500 : Int) + x2)) ∧ (w32 ((10500 : Int) + x2)) < 12600) ∧ ((0 ≤ (w32 ((w32 ((2100 : Int) * x1)) + x2)) ∧ (w32 ((w32 ((2100 : Int) * x1)) + x2)) < 12600) ∧ (∀ M1 : qM, M1 = q_wn M 106 (w32 ((w32 ((2100 : Int) * x1)) + x2)) (q_nm M 106 (w32 ((10500 : Int) + x2))) → q_lay M1 → (q_At q_m184 (q_WP q_Pr d) P 196 [(0, .inr (.inr 66)), (1, .inl x1), (2, .inl (w32 (x2 + 1)))] [] M1 c s))))))) : q_At q_m184 (q_WP q_Pr d) P 196 [(0, .inr (.inr 66)), (1, .inl x1), (2, .inl x2)] [] M c s := by
  refine s_184_196 ?_
  rw [lk66 hl, lr66_44 hl, ll101 hl, lk101 hl, lr66_49 hl, ll106 hl, lk106 hl]
  refine ⟨rfl, ?_⟩
  refine ⟨?_, ?_⟩
  · replace h := h.1
    intro g
    replace h := h g
    refine ⟨rfl, ?_⟩
    refine ⟨⟨rfl, h.1⟩, ?_⟩
    replace h := h.2
    exact h
  · replace h := h.2
    intro g
    replace h := h g
    refine ⟨rfl, ?_⟩
    refine ⟨rfl, ?_⟩
    refine ⟨⟨rfl, h.1⟩, ?_⟩
    replace h := h.2
    refine ⟨⟨⟨by decide, rfl⟩, h.1⟩, ?_⟩
    replace h := h.2
    intro M1
    have hlM1 : q_lay M1 := q_lay_wn hl
    replace h := h M1 rfl hlM1
    exact h
theorem t_185_0 {d : Nat} {P : Int → qM → Prop} {x1 : Int} {M : qM} {c s : Nat} (hl : q_lay M) (h : (((0 : Int) ≤ x1 ∧ x1 ≤ (3 : Int) → q_WP q_Pr (d + 1) 184 [.inr (.inr 66), .inl x1] M (fun v3 M4 => q_lay M4 ∧ (P v3 M4))) ∧ (¬ ((0 : Int) ≤ x1 ∧ x1 ≤ (3 : Int)) → (∀ M5 : qM, M5 = q_wn M 66 1 (0 : Int) → q_lay M5 → (P (-2 : Int) M5))))) : q_At q_m185 (q_WP q_Pr (d + 1)) P 0 [(0, .inr (.inr 66)), (1, .inl x1)] [] M c s := by
  refine s_185_0 ?_
  refine p_146 (fun g => ?_) (fun g => ?_)
  · replace h := h.1 g
    rw [lk66 hl]
    refine ⟨fun _ => ?_, fun g => absurd g (by decide)⟩
    refine ⟨rfl, ?_⟩
    refine q_WP_mono _ _ _ _ _ _ (fun v3 M4 hh => ?_) h
    obtain ⟨hlM4, h⟩ := hh
    exact h
  · replace h := h.2 g
    rw [lk66 hl]
    refine ⟨fun g => absurd g (by decide), fun _ => ?_⟩
    refine ⟨rfl, ?_⟩
    intro M5
    have hlM5 : q_lay M5 := q_lay_wn hl
    replace h := h M5 rfl hlM5
    exact h
end
