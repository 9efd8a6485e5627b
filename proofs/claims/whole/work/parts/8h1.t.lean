section
theorem t_6_0 {d : Nat} {P : Int → qM → Prop} {xn xm : Int} {x0 x1 : Int} {M : qM} {c s : Nat} (hl : q_ml M x0 xn xm) (h : ((x1 < 0 → (P (0 : Int) M)) ∧ (0 ≤ x1 → (((q_nm M x0 3) ≤ x1 → (P (0 : Int) M)) ∧ (x1 < (q_nm M x0 3) → (P (1 : Int) M)))))) : q_At q_m6 (q_WP q_Pr d) P 0 [(0, .inr (.inr x0)), (1, .inl x1)] [] M c s := by
  refine s_6_0 ?_
  rw [mk0 hl]
  refine ⟨?_, ?_⟩
  · replace h := h.1
    intro g
    replace h := h g
    refine ⟨⟨by decide, by decide⟩, ?_⟩
    exact h
  · replace h := h.2
    intro g
    replace h := h g
    refine ⟨rfl, ?_⟩
    refine ⟨?_, ?_⟩
    · replace h := h.1
      intro g
      replace h := h g
      refine ⟨⟨by decide, by decide⟩, ?_⟩
      exact h
    · replace h := h.2
      intro g
      replace h := h g
      refine ⟨⟨by decide, by decide⟩, ?_⟩
      exact h
theorem t_7_0 {d : Nat} {P : Int → qM → Prop} {xn xm : Int} {x0 : Int} {M : qM} {c s : Nat} (hl : q_ml M x0 xn xm) (h : (q_At q_m7 (q_WP q_Pr d) P 2 [(0, .inr (.inr x0)), (1, .inl (0 : Int))] [] M c s)) : q_At q_m7 (q_WP q_Pr d) P 0 [(0, .inr (.inr x0))] [] M c s := by
  refine s_7_0 ?_
  exact h
theorem t_7_2 {d : Nat} {P : Int → qM → Prop} {xn xm : Int} {x0 x1 : Int} {M : qM} {c s : Nat} (hl : q_ml M x0 xn xm) (h : (((5 : Int) ≤ x1 → (P (0 : Int) M)) ∧ (x1 < (5 : Int) → ((0 ≤ x1 ∧ x1 < 5) ∧ (∀ M1 : qM, M1 = q_wn M (x0 + 2) x1 (0 : Int) → q_ml M1 x0 xn xm → (q_At q_m7 (q_WP q_Pr d) P 2 [(0, .inr (.inr x0)), (1, .inl (w32 (x1 + 1)))] [] M1 c s)))))) : q_At q_m7 (q_WP q_Pr d) P 2 [(0, .inr (.inr x0)), (1, .inl x1)] [] M c s := by
  refine s_7_2 ?_
  rw [mk0 hl, mr12 hl, ml2 hl, mk2 hl, q_bs16_0]
  refine ⟨?_, ?_⟩
  · replace h := h.1
    intro g
    replace h := h g
    exact h
  · replace h := h.2
    intro g
    replace h := h g
    refine ⟨rfl, ?_⟩
    refine ⟨⟨Or.inr rfl, h.1⟩, ?_⟩
    replace h := h.2
    intro M1
    have hlM1 : q_ml M1 x0 xn xm := q_ml_wn hl
    replace h := h M1 rfl hlM1
    exact h
theorem t_8_0 {d : Nat} {P : Int → qM → Prop} {xn xm : Int} {x0 : Int} {M : qM} {c s : Nat} (hl : q_ml M x0 xn xm) (h : (∀ M1 : qM, M1 = q_wn M x0 3 (0 : Int) → q_ml M1 x0 xn xm → q_WP q_Pr d 10 [.inr (.inr x0), .inl (0 : Int), .inl (-1 : Int), .inl (-1 : Int)] M1 (fun v2 M3 => q_ml M3 x0 xn xm ∧ (q_At q_m8 (q_WP q_Pr d) P 14 [(0, .inr (.inr x0)), (1, .inl (1 : Int))] [] M3 c s)))) : q_At q_m8 (q_WP q_Pr d) P 0 [(0, .inr (.inr x0))] [] M c s := by
  refine s_8_0 ?_
  rw [mk0 hl]
  refine ⟨rfl, ?_⟩
  intro M1
  have hlM1 : q_ml M1 x0 xn xm := q_ml_wn hl
  replace h := h M1 rfl hlM1
  rw [mk0 hlM1]
  refine ⟨rfl, ?_⟩
  refine q_WP_mono _ _ _ _ _ _ (fun v2 M3 hh => ?_) h
  obtain ⟨hlM3, h⟩ := hh
  exact h
theorem t_8_14 {d : Nat} {P : Int → qM → Prop} {xn xm : Int} {x0 x1 : Int} {M : qM} {c s : Nat} (hl : q_ml M x0 xn xm) (h : (((8 : Int) < x1 → (P (0 : Int) M)) ∧ (x1 ≤ (8 : Int) → (((4 : Int) < x1 → ((¬ x1 = (8 : Int) → (q_At q_m8 (q_WP q_Pr d) P 53 [(0, .inr (.inr x0)), (1, .inl x1), (2, .inl (q_nm M 3 9)), (3, .inl (0 : Int))] [] M c s)) ∧ (x1 = (8 : Int) → (q_At q_m8 (q_WP q_Pr d) P 53 [(0, .inr (.inr x0)), (1, .inl x1), (2, .inl (1 : Int)), (3, .inl (0 : Int))] [] M c s)))) ∧ (x1 ≤ (4 : Int) → (q_At q_m8 (q_WP q_Pr d) P 53 [(0, .inr (.inr x0)), (1, .inl x1), (2, .inl xn), (3, .inl (0 : Int))] [] M c s)))))) : q_At q_m8 (q_WP q_Pr d) P 14 [(0, .inr (.inr x0)), (1, .inl x1)] [] M c s := by
  refine s_8_14 ?_
  rw [mk0 hl, mr0 hl, lk3 hl.1, mr1 hl, mk1 hl, ml1 hl]
  refine ⟨?_, ?_⟩
  · replace h := h.1
    intro g
    replace h := h g
    exact h
  · replace h := h.2
    intro g
    replace h := h g
    refine ⟨?_, ?_⟩
    · replace h := h.1
      intro g
      replace h := h g
      refine ⟨?_, ?_⟩
      · replace h := h.1
        intro g
        replace h := h g
        refine ⟨rfl, ?_⟩
        refine ⟨rfl, ?_⟩
        exact h
      · replace h := h.2
        intro g
        replace h := h g
        exact h
    · replace h := h.2
      intro g
      replace h := h g
      refine ⟨rfl, ?_⟩
      refine ⟨by decide, ?_⟩
      exact h
theorem t_8_53 {d : Nat} {P : Int → qM → Prop} {xn xm : Int} {x0 x1 x2 x3 : Int} {M : qM} {c s : Nat} (hl : q_ml M x0 xn xm) (h : ((xn ≤ x3 → (q_At q_m8 (q_WP q_Pr d) P 14 [(0, .inr (.inr x0)), (1, .inl (w32 (x1 + 1)))] [] M c s)) ∧ (x3 < xn → (q_At q_m8 (q_WP q_Pr d) P 65 [(0, .inr (.inr x0)), (1, .inl x1), (2, .inl x2), (3, .inl x3), (4, .inl (0 : Int))] [] M c s)))) : q_At q_m8 (q_WP q_Pr d) P 53 [(0, .inr (.inr x0)), (1, .inl x1), (2, .inl x2), (3, .inl x3)] [] M c s := by
  refine s_8_53 ?_
  rw [mk0 hl, mr1 hl, mk1 hl, ml1 hl]
  refine ⟨rfl, ?_⟩
  refine ⟨by decide, ?_⟩
  refine ⟨?_, ?_⟩
  · replace h := h.1
    intro g
    replace h := h g
    exact h
  · replace h := h.2
    intro g
    replace h := h g
    exact h
theorem t_8_65 {d : Nat} {P : Int → qM → Prop} {xn xm : Int} {x0 x1 x2 x3 x4 : Int} {M : qM} {c s : Nat} (hl : q_ml M x0 xn xm) (h : ((x2 ≤ x4 → (q_At q_m8 (q_WP q_Pr d) P 53 [(0, .inr (.inr x0)), (1, .inl x1), (2, .inl x2), (3, .inl (w32 (x3 + 1)))] [] M c s)) ∧ (x4 < x2 → q_WP q_Pr d 9 [.inr (.inr x0), .inl x1, .inl x3, .inl x4] M (fun v1 M2 => q_ml M2 x0 xn xm ∧ ((v1 = 0 → (q_At q_m8 (q_WP q_Pr d) P 65 [(0, .inr (.inr x0)), (1, .inl x1), (2, .inl x2), (3, .inl x3), (4, .inl (w32 (x4 + 1)))] [] M2 c s)) ∧ (¬ v1 = 0 → ((¬ x1 = (8 : Int) → q_WP q_Pr d 10 [.inr (.inr x0), .inl x1, .inl x3, .inl x4] M2 (fun v3 M4 => q_ml M4 x0 xn xm ∧ (q_At q_m8 (q_WP q_Pr d) P 65 [(0, .inr (.inr x0)), (1, .inl x1), (2, .inl x2), (3, .inl x3), (4, .inl (w32 (x4 + 1)))] [] M4 c s))) ∧ (x1 = (8 : Int) → q_WP q_Pr d 10 [.inr (.inr x0), .inl x1, .inl x3, .inl (-1 : Int)] M2 (fun v5 M6 => q_ml M6 x0 xn xm ∧ (q_At q_m8 (q_WP q_Pr d) P 65 [(0, .inr (.inr x0)), (1, .inl x1), (2, .inl x2), (3, .inl x3), (4, .inl (w32 (x4 + 1)))] [] M6 c s)))))))))) : q_At q_m8 (q_WP q_Pr d) P 65 [(0, .inr (.inr x0)), (1, .inl x1), (2, .inl x2), (3, .inl x3), (4, .inl x4)] [] M c s := by
  refine s_8_65 ?_
  rw [mk0 hl]
  refine ⟨?_, ?_⟩
  · replace h := h.1
    intro g
    replace h := h g
    exact h
  · replace h := h.2
    intro g
    replace h := h g
    refine ⟨rfl, ?_⟩
    refine q_WP_mono _ _ _ _ _ _ (fun v1 M2 hh => ?_) h
    obtain ⟨hlM2, h⟩ := hh
    rw [mk0 hlM2]
    refine ⟨?_, ?_⟩
    · replace h := h.1
      intro g
      replace h := h g
      exact h
    · replace h := h.2
      intro g
      replace h := h g
      refine ⟨?_, ?_⟩
      · replace h := h.1
        intro g
        replace h := h g
        refine ⟨rfl, ?_⟩
        refine q_WP_mono _ _ _ _ _ _ (fun v3 M4 hh => ?_) h
        obtain ⟨hlM4, h⟩ := hh
        exact h
      · replace h := h.2
        intro g
        replace h := h g
        refine ⟨rfl, ?_⟩
        refine q_WP_mono _ _ _ _ _ _ (fun v5 M6 hh => ?_) h
        obtain ⟨hlM6, h⟩ := hh
        exact h
theorem t_9_0 {d : Nat} {P : Int → qM → Prop} {xn xm : Int} {x0 x1 x2 x3 : Int} {M : qM} {c s : Nat} (hl : q_ml M x0 xn xm) (h : ((0 ≤ x2 ∧ x2 < xn) ∧ (((x1 = 1 → ((x3 ≤ x2 → (q_At q_m9 (q_WP q_Pr d) P 80 [] [.inl (0 : Int)] M c s)) ∧ (x2 < x3 → ((0 ≤ x3 ∧ x3 < xn) ∧ q_WP q_Pr d 91 [.inr (.inr 3), .inl (q_nm M (x0 + 1) x2), .inl (q_nm M (x0 + 1) x3)] M (fun v1 M2 => q_ml M2 x0 xn xm ∧ ((v1 = 0 → (q_At q_m9 (q_WP q_Pr d) P 80 [] [.inl (0 : Int)] M2 c s)) ∧ (¬ v1 = 0 → (q_At q_m9 (q_WP q_Pr d) P 80 [] [.inl (1 : Int)] M2 c s)))))))) ∧ ((x1 = 2 → ((x2 ≤ x3 → (P (0 : Int) M)) ∧ (x3 < x2 → ((0 ≤ x3 ∧ x3 < xn) ∧ q_WP q_Pr d 91 [.inr (.inr 3), .inl (q_nm M (x0 + 1) x2), .inl (q_nm M (x0 + 1) x3)] M (fun v3 M4 => q_ml M4 x0 xn xm ∧ ((v3 = 0 → (P (0 : Int) M4)) ∧ (¬ v3 = 0 → (P (1 : Int) M4)))))))) ∧ ((x1 = 3 → ((x3 ≤ x2 → (q_At q_m9 (q_WP q_Pr d) P 80 [] [.inl (0 : Int)] M c s)) ∧ (x2 < x3 → ((0 ≤ x3 ∧ x3 < xn) ∧ q_WP q_Pr d 91 [.inr (.inr 3), .inl (q_nm M (x0 + 1) x2), .inl (q_nm M (x0 + 1) x3)] M (fun v5 M6 => q_ml M6 x0 xn xm ∧ ((v5 = 0 → (q_At q_m9 (q_WP q_Pr d) P 80 [] [.inl (0 : Int)] M6 c s)) ∧ (¬ v5 = 0 → (q_At q_m9 (q_WP q_Pr d) P 80 [] [.inl (1 : Int)] M6 c s)))))))) ∧ ((x1 = 4 → ((x3 ≤ x2 → (P (0 : Int) M)) ∧ (x2 < x3 → ((0 ≤ x3 ∧ x3 < xn) ∧ (((q_nm M (x0 + 1) x2) = (q_nm M (x0 + 1) x3) → (P (0 : Int) M)) ∧ (¬ (q_nm M (x0 + 1) x2) = (q_nm M (x0 + 1) x3) → (P (1 : Int) M))))))) ∧ ((x1 = 5 → q_WP q_Pr d 92 [.inr (.inr 3), .inl (q_nm M (x0 + 1) x2), .inl x3] M (fun v7 M8 => q_ml M8 x0 xn xm ∧ ((v7 = 0 → (P (0 : Int) M8)) ∧ (¬ v7 = 0 → q_WP q_Pr d 93 [.inr (.inr 3), .inl (q_nm M (x0 + 1) x2), .inl x3] M8 (fun v9 M10 => q_ml M10 x0 xn xm ∧ ((v9 = 0 → (P (0 : Int) M10)) ∧ (¬ v9 = 0 → (P (1 : Int) M10)))))))) ∧ ((x1 = 6 → q_WP q_Pr d 95 [.inr (.inr 3), .inl (q_nm M (x0 + 1) x2), .inl x3] M (fun v11 M12 => q_ml M12 x0 xn xm ∧ ((0 ≤ v11 ∧ v11 ≤ 1) ∧ (P v11 M12)))) ∧ ((x1 = 7 → q_WP q_Pr d 92 [.inr (.inr 3), .inl (q_nm M (x0 + 1) x2), .inl x3] M (fun v13 M14 => q_ml M14 x0 xn xm ∧ ((0 ≤ v13 ∧ v13 ≤ 1) ∧ (P v13 M14)))) ∧ True))))))) ∧ ((x1 < 1 ∨ 7 < x1) → q_WP q_Pr d 94 [.inr (.inr 3), .inl (q_nm M (x0 + 1) x2)] M (fun v15 M16 => q_ml M16 x0 xn xm ∧ ((0 ≤ v15 ∧ v15 ≤ 1) ∧ (P v15 M16))))))) : q_At q_m9 (q_WP q_Pr d) P 0 [(0, .inr (.inr x0)), (1, .inl x1), (2, .inl x2), (3, .inl x3)] [] M c s := by
  refine s_9_0 ?_
  rw [mk0 hl, mr1 hl, ml1 hl, mk1 hl, mr0 hl, lk3 hl.1]
  refine ⟨rfl, ?_⟩
  refine ⟨⟨rfl, h.1⟩, ?_⟩
  replace h := h.2
  refine ⟨?_, ?_⟩
  · replace h := h.1
    refine ⟨?_, ?_⟩
    · replace h := h.1
      intro g
      replace h := h g
      refine ⟨?_, ?_⟩
      · replace h := h.1
        intro g
        replace h := h g
        exact h
      · replace h := h.2
        intro g
        replace h := h g
        refine ⟨rfl, ?_⟩
        refine ⟨rfl, ?_⟩
        refine ⟨⟨rfl, h.1⟩, ?_⟩
        replace h := h.2
        refine ⟨rfl, ?_⟩
        refine q_WP_mono _ _ _ _ _ _ (fun v1 M2 hh => ?_) h
        obtain ⟨hlM2, h⟩ := hh
        refine ⟨?_, ?_⟩
        · replace h := h.1
          intro g
          replace h := h g
          exact h
        · replace h := h.2
          intro g
          replace h := h g
          exact h
    · replace h := h.2
      refine ⟨?_, ?_⟩
      · replace h := h.1
        intro g
        replace h := h g
        refine ⟨?_, ?_⟩
        · replace h := h.1
          intro g
          replace h := h g
          refine ⟨⟨by decide, by decide⟩, ?_⟩
          exact h
        · replace h := h.2
          intro g
          replace h := h g
          refine ⟨rfl, ?_⟩
          refine ⟨rfl, ?_⟩
          refine ⟨⟨rfl, h.1⟩, ?_⟩
          replace h := h.2
          refine ⟨rfl, ?_⟩
          refine q_WP_mono _ _ _ _ _ _ (fun v3 M4 hh => ?_) h
          obtain ⟨hlM4, h⟩ := hh
          refine ⟨?_, ?_⟩
          · replace h := h.1
            intro g
            replace h := h g
            refine ⟨⟨by decide, by decide⟩, ?_⟩
            exact h
          · replace h := h.2
            intro g
            replace h := h g
            refine ⟨⟨by decide, by decide⟩, ?_⟩
            exact h
      · replace h := h.2
        refine ⟨?_, ?_⟩
        · replace h := h.1
          intro g
          replace h := h g
          refine ⟨?_, ?_⟩
          · replace h := h.1
            intro g
            replace h := h g
            exact h
          · replace h := h.2
            intro g
            replace h := h g
            refine ⟨rfl, ?_⟩
            refine ⟨rfl, ?_⟩
            refine ⟨⟨rfl, h.1⟩, ?_⟩
            replace h := h.2
            refine ⟨rfl, ?_⟩
            refine q_WP_mono _ _ _ _ _ _ (fun v5 M6 hh => ?_) h
            obtain ⟨hlM6, h⟩ := hh
            refine ⟨?_, ?_⟩
            · replace h := h.1
              intro g
              replace h := h g
              exact h
            · replace h := h.2
              intro g
              replace h := h g
              exact h
        · replace h := h.2
          refine ⟨?_, ?_⟩
          · replace h := h.1
            intro g
            replace h := h g
            refine ⟨?_, ?_⟩
            · replace h := h.1
              intro g
              replace h := h g
              refine ⟨⟨by decide, by decide⟩, ?_⟩
              exact h
            · replace h := h.2
              intro g
              replace h := h g
              refine ⟨rfl, ?_⟩
              refine ⟨⟨rfl, h.1⟩, ?_⟩
              replace h := h.2
              refine ⟨?_, ?_⟩
              · replace h := h.1
                intro g
                replace h := h g
                refine ⟨⟨by decide, by decide⟩, ?_⟩
                exact h
              · replace h := h.2
                intro g
                replace h := h g
                refine ⟨⟨by decide, by decide⟩, ?_⟩
                exact h
          · replace h := h.2
            refine ⟨?_, ?_⟩
            · replace h := h.1
              intro g
              replace h := h g
              refine ⟨rfl, ?_⟩
              refine ⟨rfl, ?_⟩
              refine q_WP_mono _ _ _ _ _ _ (fun v7 M8 hh => ?_) h
              obtain ⟨hlM8, h⟩ := hh
              rw [mk0 hlM8, mr0 hlM8, lk3 hlM8.1]
              refine ⟨?_, ?_⟩
              · replace h := h.1
                intro g
                replace h := h g
                refine ⟨⟨by decide, by decide⟩, ?_⟩
                exact h
              · replace h := h.2
                intro g
                replace h := h g
                refine ⟨rfl, ?_⟩
                refine ⟨rfl, ?_⟩
                refine q_WP_mono _ _ _ _ _ _ (fun v9 M10 hh => ?_) h
                obtain ⟨hlM10, h⟩ := hh
                refine ⟨?_, ?_⟩
                · replace h := h.1
                  intro g
                  replace h := h g
                  refine ⟨⟨by decide, by decide⟩, ?_⟩
                  exact h
                · replace h := h.2
                  intro g
                  replace h := h g
                  refine ⟨⟨by decide, by decide⟩, ?_⟩
                  exact h
            · replace h := h.2
              refine ⟨?_, ?_⟩
              · replace h := h.1
                intro g
                replace h := h g
                refine ⟨rfl, ?_⟩
                refine ⟨rfl, ?_⟩
                refine q_WP_mono _ _ _ _ _ _ (fun v11 M12 hh => ?_) h
                obtain ⟨hlM12, h⟩ := hh
                refine ⟨h.1, ?_⟩
                replace h := h.2
                exact h
              · replace h := h.2
                refine ⟨?_, ?_⟩
                · replace h := h.1
                  intro g
                  replace h := h g
                  refine ⟨rfl, ?_⟩
                  refine ⟨rfl, ?_⟩
                  refine q_WP_mono _ _ _ _ _ _ (fun v13 M14 hh => ?_) h
                  obtain ⟨hlM14, h⟩ := hh
                  refine ⟨h.1, ?_⟩
                  replace h := h.2
                  exact h
                · replace h := h.2
                  exact trivial
  · replace h := h.2
    intro g
    replace h := h g
    refine ⟨rfl, ?_⟩
    refine ⟨rfl, ?_⟩
    refine q_WP_mono _ _ _ _ _ _ (fun v15 M16 hh => ?_) h
    obtain ⟨hlM16, h⟩ := hh
    refine ⟨h.1, ?_⟩
    replace h := h.2
    exact h
theorem t_9_80 {d : Nat} {P : Int → qM → Prop} {xn xm x0 : Int} {y0 : Int} {M : qM} {c s : Nat} (hl : q_ml M x0 xn xm) (h : ((0 ≤ y0 ∧ y0 ≤ 1) ∧ (P y0 M))) : q_At q_m9 (q_WP q_Pr d) P 80 [] [.inl y0] M c s := by
  refine s_9_80 ?_
  refine ⟨h.1, ?_⟩
  replace h := h.2
  exact h
theorem t_10_0 {d : Nat} {P : Int → qM → Prop} {xn xm : Int} {x0 x1 x2 x3 : Int} {M : qM} {c s : Nat} (hl : q_ml M x0 xn xm) (h : ((xm ≤ (q_nm M x0 3) → (P (0 : Int) M)) ∧ ((q_nm M x0 3) < xm → ((0 ≤ (q_nm M x0 3) ∧ (q_nm M x0 3) < xm) ∧ (∀ M1 : qM, M1 = q_wn M (x0 + 4) (q_nm M x0 3) (w8 x1) → q_ml M1 x0 xn xm → ((0 ≤ (q_nm M1 x0 3) ∧ (q_nm M1 x0 3) < xm) ∧ (∀ M2 : qM, M2 = q_wn M1 (x0 + 5) (q_nm M1 x0 3) (w8 x2) → q_ml M2 x0 xn xm → ((0 ≤ (q_nm M2 x0 3) ∧ (q_nm M2 x0 3) < xm) ∧ (∀ M3 : qM, M3 = q_wn M2 (x0 + 6) (q_nm M2 x0 3) (w8 x3) → q_ml M3 x0 xn xm → (∀ M4 : qM, M4 = q_wn M3 x0 3 (w32 ((q_nm M3 x0 3) + (1 : Int))) → q_ml M4 x0 xn xm → (P (0 : Int) M4))))))))))) : q_At q_m10 (q_WP q_Pr d) P 0 [(0, .inr (.inr x0)), (1, .inl x1), (2, .inl x2), (3, .inl x3)] [] M c s := by
  refine s_10_0 ?_
  rw [mk0 hl, mr4 hl, mk4 hl, ml4 hl, q_bs12, w8_w8]
  refine ⟨rfl, ?_⟩
  refine ⟨rfl, ?_⟩
  refine ⟨by decide, ?_⟩
  refine ⟨?_, ?_⟩
  · replace h := h.1
    intro g
    replace h := h g
    exact h
  · replace h := h.2
    intro g
    replace h := h g
    refine ⟨rfl, ?_⟩
    refine ⟨rfl, ?_⟩
    refine ⟨⟨Or.inl rfl, h.1⟩, ?_⟩
    replace h := h.2
    intro M1
    have hlM1 : q_ml M1 x0 xn xm := q_ml_wn hl
    replace h := h M1 rfl hlM1
    rw [mk0 hlM1, mr5 hlM1, ml5 hlM1, mk5 hlM1, q_bs12, w8_w8]
    refine ⟨rfl, ?_⟩
    refine ⟨rfl, ?_⟩
    refine ⟨⟨Or.inl rfl, h.1⟩, ?_⟩
    replace h := h.2
    intro M2
    have hlM2 : q_ml M2 x0 xn xm := q_ml_wn hlM1
    replace h := h M2 rfl hlM2
    rw [mk0 hlM2, mr6 hlM2, ml6 hlM2, mk6 hlM2, q_bs12, w8_w8]
    refine ⟨rfl, ?_⟩
    refine ⟨rfl, ?_⟩
    refine ⟨⟨Or.inl rfl, h.1⟩, ?_⟩
    replace h := h.2
    intro M3
    have hlM3 : q_ml M3 x0 xn xm := q_ml_wn hlM2
    replace h := h M3 rfl hlM3
    rw [mk0 hlM3]
    refine ⟨rfl, ?_⟩
    refine ⟨rfl, ?_⟩
    intro M4
    have hlM4 : q_ml M4 x0 xn xm := q_ml_wn hlM3
    replace h := h M4 rfl hlM4
    exact h
theorem t_11_0 {d : Nat} {P : Int → qM → Prop} {xn xm : Int} {x0 x1 x2 : Int} {M : qM} {c s : Nat} (hl : q_ml M x0 xn xm) (h : ((0 ≤ x1 ∧ x1 < xm) ∧ ((0 ≤ x1 ∧ x1 < xm) ∧ ((0 ≤ x1 ∧ x1 < xm) ∧ ((((q_nm M (x0 + 4) x1) = 1 → ((¬ x2 = (q_nm M (x0 + 5) x1) → ((0 ≤ x2 ∧ x2 < xn) ∧ (P (q_nm M (x0 + 1) x2) M))) ∧ (x2 = (q_nm M (x0 + 5) x1) → ((0 ≤ (q_nm M (x0 + 6) x1) ∧ (q_nm M (x0 + 6) x1) < xn) ∧ (P (q_nm M (x0 + 1) (q_nm M (x0 + 6) x1)) M))))) ∧ (((q_nm M (x0 + 4) x1) = 2 → ((¬ x2 = (q_nm M (x0 + 5) x1) → ((0 ≤ x2 ∧ x2 < xn) ∧ (P (q_nm M (x0 + 1) x2) M))) ∧ (x2 = (q_nm M (x0 + 5) x1) → ((0 ≤ (q_nm M (x0 + 6) x1) ∧ (q_nm M (x0 + 6) x1) < xn) ∧ (P (q_nm M (x0 + 1) (q_nm M (x0 + 6) x1)) M))))) ∧ (((q_nm M (x0 + 4) x1) = 3 → ((¬ x2 = (q_nm M (x0 + 5) x1) → ((¬ x2 = (q_nm M (x0 + 6) x1) → (q_At q_m11 (q_WP q_Pr d) P 110 [] [.inl x2, .inr (.inr (x0 + 1))] M c s)) ∧ (x2 = (q_nm M (x0 + 6) x1) → (q_At q_m11 (q_WP q_Pr d) P 110 [] [.inl (q_nm M (x0 + 5) x1), .inr (.inr (x0 + 1))] M c s)))) ∧ (x2 = (q_nm M (x0 + 5) x1) → (q_At q_m11 (q_WP q_Pr d) P 110 [] [.inl (q_nm M (x0 + 6) x1), .inr (.inr (x0 + 1))] M c s)))) ∧ (((q_nm M (x0 + 4) x1) = 4 → ((¬ x2 = (q_nm M (x0 + 5) x1) → ((¬ x2 = (q_nm M (x0 + 6) x1) → (q_At q_m11 (q_WP q_Pr d) P 110 [] [.inl x2, .inr (.inr (x0 + 1))] M c s)) ∧ (x2 = (q_nm M (x0 + 6) x1) → (q_At q_m11 (q_WP q_Pr d) P 110 [] [.inl (q_nm M (x0 + 5) x1), .inr (.inr (x0 + 1))] M c s)))) ∧ (x2 = (q_nm M (x0 + 5) x1) → (q_At q_m11 (q_WP q_Pr d) P 110 [] [.inl (q_nm M (x0 + 6) x1), .inr (.inr (x0 + 1))] M c s)))) ∧ (((q_nm M (x0 + 4) x1) = 5 → ((0 ≤ x2 ∧ x2 < xn) ∧ (P (q_nm M (x0 + 1) x2) M))) ∧ (((q_nm M (x0 + 4) x1) = 6 → ((¬ x2 = (q_nm M (x0 + 5) x1) → ((0 ≤ x2 ∧ x2 < xn) ∧ (P (q_nm M (x0 + 1) x2) M))) ∧ (x2 = (q_nm M (x0 + 5) x1) → (P (q_nm M (x0 + 6) x1) M)))) ∧ (((q_nm M (x0 + 4) x1) = 7 → ((¬ x2 = (q_nm M (x0 + 5) x1) → ((0 ≤ x2 ∧ x2 < xn) ∧ (P (q_nm M (x0 + 1) x2) M))) ∧ (x2 = (q_nm M (x0 + 5) x1) → (P (q_nm M (x0 + 6) x1) M)))) ∧ (((q_nm M (x0 + 4) x1) = 8 → ((¬ x2 = (q_nm M (x0 + 5) x1) → ((0 ≤ x2 ∧ x2 < xn) ∧ (P (q_nm M (x0 + 1) x2) M))) ∧ (x2 = (q_nm M (x0 + 5) x1) → (P (-1 : Int) M)))) ∧ True)))))))) ∧ (((q_nm M (x0 + 4) x1) < 1 ∨ 8 < (q_nm M (x0 + 4) x1)) → ((0 ≤ x2 ∧ x2 < xn) ∧ (P (q_nm M (x0 + 1) x2) M)))))))) : q_At q_m11 (q_WP q_Pr d) P 0 [(0, .inr (.inr x0)), (1, .inl x1), (2, .inl x2)] [] M c s := by
  refine s_11_0 ?_
  rw [mk0 hl, mr5 hl, ml5 hl, mk5 hl, mr6 hl, ml6 hl, mk6 hl, mr4 hl, ml4 hl, mk4 hl, mr1 hl, ml1 hl, mk1 hl]
  refine ⟨rfl, ?_⟩
  refine ⟨⟨Or.inl rfl, h.1⟩, ?_⟩
  replace h := h.2
  refine ⟨rfl, ?_⟩
  refine ⟨⟨Or.inl rfl, h.1⟩, ?_⟩
  replace h := h.2
  refine ⟨rfl, ?_⟩
  refine ⟨⟨Or.inl rfl, h.1⟩, ?_⟩
  replace h := h.2
  refine ⟨?_, ?_⟩
  · replace h := h.1
    refine ⟨?_, ?_⟩
    · replace h := h.1
      intro g
      replace h := h g
      refine ⟨rfl, ?_⟩
      refine ⟨?_, ?_⟩
      · replace h := h.1
        intro g
        replace h := h g
        refine ⟨⟨rfl, h.1⟩, ?_⟩
        replace h := h.2
        exact h
      · replace h := h.2
        intro g
        replace h := h g
        refine ⟨⟨rfl, h.1⟩, ?_⟩
        replace h := h.2
        exact h
    · replace h := h.2
      refine ⟨?_, ?_⟩
      · replace h := h.1
        intro g
        replace h := h g
        refine ⟨rfl, ?_⟩
        refine ⟨?_, ?_⟩
        · replace h := h.1
          intro g
          replace h := h g
          refine ⟨⟨rfl, h.1⟩, ?_⟩
          replace h := h.2
          exact h
        · replace h := h.2
          intro g
          replace h := h g
          refine ⟨⟨rfl, h.1⟩, ?_⟩
          replace h := h.2
          exact h
      · replace h := h.2
        refine ⟨?_, ?_⟩
        · replace h := h.1
          intro g
          replace h := h g
          refine ⟨rfl, ?_⟩
          refine ⟨?_, ?_⟩
          · replace h := h.1
            intro g
            replace h := h g
            refine ⟨?_, ?_⟩
            · replace h := h.1
              intro g
              replace h := h g
              exact h
            · replace h := h.2
              intro g
              replace h := h g
              exact h
          · replace h := h.2
            intro g
            replace h := h g
            exact h
        · replace h := h.2
          refine ⟨?_, ?_⟩
          · replace h := h.1
            intro g
            replace h := h g
            refine ⟨rfl, ?_⟩
            refine ⟨?_, ?_⟩
            · replace h := h.1
              intro g
              replace h := h g
              refine ⟨?_, ?_⟩
              · replace h := h.1
                intro g
                replace h := h g
                exact h
              · replace h := h.2
                intro g
                replace h := h g
                exact h
            · replace h := h.2
              intro g
              replace h := h g
              exact h
          · replace h := h.2
            refine ⟨?_, ?_⟩
            · replace h := h.1
              intro g
              replace h := h g
              refine ⟨rfl, ?_⟩
              refine ⟨⟨rfl, h.1⟩, ?_⟩
              replace h := h.2
              exact h
            · replace h := h.2
              refine ⟨?_, ?_⟩
              · replace h := h.1
                intro g
                replace h := h g
                refine ⟨?_, ?_⟩
                · replace h := h.1
                  intro g
                  replace h := h g
                  refine ⟨rfl, ?_⟩
                  refine ⟨⟨rfl, h.1⟩, ?_⟩
                  replace h := h.2
                  exact h
                · replace h := h.2
                  intro g
                  replace h := h g
                  exact h
              · replace h := h.2
                refine ⟨?_, ?_⟩
                · replace h := h.1
                  intro g
                  replace h := h g
                  refine ⟨?_, ?_⟩
                  · replace h := h.1
                    intro g
                    replace h := h g
                    refine ⟨rfl, ?_⟩
                    refine ⟨⟨rfl, h.1⟩, ?_⟩
                    replace h := h.2
                    exact h
                  · replace h := h.2
                    intro g
                    replace h := h g
                    exact h
                · replace h := h.2
                  refine ⟨?_, ?_⟩
                  · replace h := h.1
                    intro g
                    replace h := h g
                    refine ⟨?_, ?_⟩
                    · replace h := h.1
                      intro g
                      replace h := h g
                      refine ⟨rfl, ?_⟩
                      refine ⟨⟨rfl, h.1⟩, ?_⟩
                      replace h := h.2
                      exact h
                    · replace h := h.2
                      intro g
                      replace h := h g
                      exact h
                  · replace h := h.2
                    exact trivial
  · replace h := h.2
    intro g
    replace h := h g
    refine ⟨rfl, ?_⟩
    refine ⟨⟨rfl, h.1⟩, ?_⟩
    replace h := h.2
    exact h
theorem t_11_110 {d : Nat} {P : Int → qM → Prop} {xn xm x0 : Int} {y0 y1 : Int} {M : qM} {c s : Nat} (hl : q_ml M x0 xn xm) (h : ((q_kd M y1 = 14 ∧ 0 ≤ y0 ∧ y0 < q_ln M y1) ∧ (P (q_nm M y1 y0) M))) : q_At q_m11 (q_WP q_Pr d) P 110 [] [.inl y0, .inr (.inr y1)] M c s := by
  refine s_11_110 ?_
  refine ⟨h.1, ?_⟩
  replace h := h.2
  exact h
theorem t_12_0 {d : Nat} {P : Int → qM → Prop} {xn xm : Int} {x0 x1 x2 : Int} {M : qM} {c s : Nat} (hl : q_ml M x0 xn xm) (h : ((0 ≤ x1 ∧ x1 < xm) ∧ ((0 ≤ x1 ∧ x1 < xm) ∧ ((0 ≤ x1 ∧ x1 < xm) ∧ ((((q_nm M (x0 + 4) x1) = 4 → ((¬ x2 = (q_nm M (x0 + 5) x1) → ((¬ x2 = (q_nm M (x0 + 6) x1) → ((0 ≤ x2 ∧ x2 < xn) ∧ (P (q_nm M (x0 + 1) x2) M))) ∧ (x2 = (q_nm M (x0 + 6) x1) → ((0 ≤ (q_nm M (x0 + 5) x1) ∧ (q_nm M (x0 + 5) x1) < xn) ∧ (P (q_nm M (x0 + 1) (q_nm M (x0 + 5) x1)) M))))) ∧ (x2 = (q_nm M (x0 + 5) x1) → ((0 ≤ (q_nm M (x0 + 6) x1) ∧ (q_nm M (x0 + 6) x1) < xn) ∧ (P (q_nm M (x0 + 1) (q_nm M (x0 + 6) x1)) M))))) ∧ (((q_nm M (x0 + 4) x1) = 5 → ((¬ x2 = (q_nm M (x0 + 5) x1) → ((0 ≤ x2 ∧ x2 < xn) ∧ (P (q_nm M (x0 + 1) x2) M))) ∧ (x2 = (q_nm M (x0 + 5) x1) → (P (q_nm M (x0 + 6) x1) M)))) ∧ (((q_nm M (x0 + 4) x1) = 6 → ((¬ x2 = (q_nm M (x0 + 5) x1) → ((0 ≤ x2 ∧ x2 < xn) ∧ (P (q_nm M (x0 + 1) x2) M))) ∧ (x2 = (q_nm M (x0 + 5) x1) → (P (q_nm M (x0 + 6) x1) M)))) ∧ (((q_nm M (x0 + 4) x1) = 7 → ((¬ x2 = (q_nm M (x0 + 5) x1) → ((0 ≤ x2 ∧ x2 < xn) ∧ (P (q_nm M (x0 + 1) x2) M))) ∧ (x2 = (q_nm M (x0 + 5) x1) → (P (q_nm M (x0 + 6) x1) M)))) ∧ True)))) ∧ (((q_nm M (x0 + 4) x1) < 4 ∨ 7 < (q_nm M (x0 + 4) x1)) → ((0 ≤ x2 ∧ x2 < xn) ∧ (P (q_nm M (x0 + 1) x2) M)))))))) : q_At q_m12 (q_WP q_Pr d) P 0 [(0, .inr (.inr x0)), (1, .inl x1), (2, .inl x2)] [] M c s := by
  refine s_12_0 ?_
  rw [mk0 hl, mr5 hl, ml5 hl, mk5 hl, mr6 hl, ml6 hl, mk6 hl, mr4 hl, ml4 hl, mk4 hl, mr1 hl, ml1 hl, mk1 hl]
  refine ⟨rfl, ?_⟩
  refine ⟨⟨Or.inl rfl, h.1⟩, ?_⟩
  replace h := h.2
  refine ⟨rfl, ?_⟩
  refine ⟨⟨Or.inl rfl, h.1⟩, ?_⟩
  replace h := h.2
  refine ⟨rfl, ?_⟩
  refine ⟨⟨Or.inl rfl, h.1⟩, ?_⟩
  replace h := h.2
  refine ⟨?_, ?_⟩
  · replace h := h.1
    refine ⟨?_, ?_⟩
    · replace h := h.1
      intro g
      replace h := h g
      refine ⟨rfl, ?_⟩
      refine ⟨?_, ?_⟩
      · replace h := h.1
        intro g
        replace h := h g
        refine ⟨?_, ?_⟩
        · replace h := h.1
          intro g
          replace h := h g
          refine ⟨⟨rfl, h.1⟩, ?_⟩
          replace h := h.2
          exact h
        · replace h := h.2
          intro g
          replace h := h g
          refine ⟨⟨rfl, h.1⟩, ?_⟩
          replace h := h.2
          exact h
      · replace h := h.2
        intro g
        replace h := h g
        refine ⟨⟨rfl, h.1⟩, ?_⟩
        replace h := h.2
        exact h
    · replace h := h.2
      refine ⟨?_, ?_⟩
      · replace h := h.1
        intro g
        replace h := h g
        refine ⟨?_, ?_⟩
        · replace h := h.1
          intro g
          replace h := h g
          refine ⟨rfl, ?_⟩
          refine ⟨⟨rfl, h.1⟩, ?_⟩
          replace h := h.2
          exact h
        · replace h := h.2
          intro g
          replace h := h g
          exact h
      · replace h := h.2
        refine ⟨?_, ?_⟩
        · replace h := h.1
          intro g
          replace h := h g
          refine ⟨?_, ?_⟩
          · replace h := h.1
            intro g
            replace h := h g
            refine ⟨rfl, ?_⟩
            refine ⟨⟨rfl, h.1⟩, ?_⟩
            replace h := h.2
            exact h
          · replace h := h.2
            intro g
            replace h := h g
            exact h
        · replace h := h.2
          refine ⟨?_, ?_⟩
          · replace h := h.1
            intro g
            replace h := h g
            refine ⟨?_, ?_⟩
            · replace h := h.1
              intro g
              replace h := h g
              refine ⟨rfl, ?_⟩
              refine ⟨⟨rfl, h.1⟩, ?_⟩
              replace h := h.2
              exact h
            · replace h := h.2
              intro g
              replace h := h g
              exact h
          · replace h := h.2
            exact trivial
  · replace h := h.2
    intro g
    replace h := h g
    refine ⟨rfl, ?_⟩
    refine ⟨⟨rfl, h.1⟩, ?_⟩
    replace h := h.2
    exact h
theorem t_13_0 {d : Nat} {P : Int → qM → Prop} {xn xm : Int} {x0 : Int} {M : qM} {c s : Nat} (hl : q_ml M x0 xn xm) (h : (q_At q_m13 (q_WP q_Pr d) P 2 [(0, .inr (.inr x0)), (1, .inl (0 : Int))] [] M c s)) : q_At q_m13 (q_WP q_Pr d) P 0 [(0, .inr (.inr x0))] [] M c s := by
  refine s_13_0 ?_
  exact h
theorem t_13_2 {d : Nat} {P : Int → qM → Prop} {xn xm : Int} {x0 x1 : Int} {M : qM} {c s : Nat} (hl : q_ml M x0 xn xm) (h : (((q_nm M x0 3) ≤ x1 → (P (0 : Int) M)) ∧ (x1 < (q_nm M x0 3) → ((0 ≤ x1 ∧ x1 < xm) ∧ (∀ M1 : qM, M1 = q_wn M (x0 + 7) x1 (w8 (0 : Int)) → q_ml M1 x0 xn xm → ((0 ≤ x1 ∧ x1 < xm) ∧ (∀ M2 : qM, M2 = q_wn M1 (x0 + 8) x1 (1 : Int) → q_ml M2 x0 xn xm → ((0 ≤ x1 ∧ x1 < xm) ∧ (∀ M3 : qM, M3 = q_wn M2 (x0 + 9) x1 (0 : Int) → q_ml M3 x0 xn xm → ((0 ≤ x1 ∧ x1 < xm) ∧ (((q_nm M3 (x0 + 4) x1) = 0 → ((0 ≤ x1 ∧ x1 < xm) ∧ (((q_nm M3 (x0 + 4) x1) = (3 : Int) → ((0 ≤ x1 ∧ x1 < xm) ∧ q_WP q_Pr d 14 [.inr (.inr x0), .inl x1, .inl (q_nm M3 (x0 + 6) x1)] M3 (fun v4 M5 => q_ml M5 x0 xn xm ∧ q_WP q_Pr d 15 [.inr (.inr x0), .inl x1] M5 (fun v6 M7 => q_ml M7 x0 xn xm ∧ ((0 ≤ x1 ∧ x1 < xm) ∧ (∀ M8 : qM, M8 = q_wn M7 (x0 + 10) x1 v6 → q_ml M8 x0 xn xm → (q_At q_m13 (q_WP q_Pr d) P 2 [(0, .inr (.inr x0)), (1, .inl (w32 (x1 + 1)))] [] M8 c s))))))) ∧ (¬ (q_nm M3 (x0 + 4) x1) = (3 : Int) → ((0 ≤ x1 ∧ x1 < xm) ∧ ((¬ (q_nm M3 (x0 + 4) x1) = (4 : Int) → q_WP q_Pr d 15 [.inr (.inr x0), .inl x1] M3 (fun v9 M10 => q_ml M10 x0 xn xm ∧ ((0 ≤ x1 ∧ x1 < xm) ∧ (∀ M11 : qM, M11 = q_wn M10 (x0 + 10) x1 v9 → q_ml M11 x0 xn xm → (q_At q_m13 (q_WP q_Pr d) P 2 [(0, .inr (.inr x0)), (1, .inl (w32 (x1 + 1)))] [] M11 c s))))) ∧ ((q_nm M3 (x0 + 4) x1) = (4 : Int) → ((0 ≤ x1 ∧ x1 < xm) ∧ q_WP q_Pr d 14 [.inr (.inr x0), .inl x1, .inl (q_nm M3 (x0 + 6) x1)] M3 (fun v12 M13 => q_ml M13 x0 xn xm ∧ q_WP q_Pr d 15 [.inr (.inr x0), .inl x1] M13 (fun v14 M15 => q_ml M15 x0 xn xm ∧ ((0 ≤ x1 ∧ x1 < xm) ∧ (∀ M16 : qM, M16 = q_wn M15 (x0 + 10) x1 v14 → q_ml M16 x0 xn xm → (q_At q_m13 (q_WP q_Pr d) P 2 [(0, .inr (.inr x0)), (1, .inl (w32 (x1 + 1)))] [] M16 c s))))))))))))) ∧ (¬ (q_nm M3 (x0 + 4) x1) = 0 → ((0 ≤ x1 ∧ x1 < xm) ∧ ((0 ≤ (q_nm M3 (x0 + 5) x1) ∧ (q_nm M3 (x0 + 5) x1) < xn) ∧ q_WP q_Pr d 11 [.inr (.inr x0), .inl x1, .inl (q_nm M3 (x0 + 5) x1)] M3 (fun v17 M18 => q_ml M18 x0 xn xm ∧ q_WP q_Pr d 12 [.inr (.inr x0), .inl x1, .inl (q_nm M3 (x0 + 5) x1)] M18 (fun v19 M20 => q_ml M20 x0 xn xm ∧ q_WP q_Pr d 90 [.inr (.inr 3), .inl (q_nm M3 (x0 + 1) (q_nm M3 (x0 + 5) x1)), .inl v17, .inl v19] M20 (fun v21 M22 => q_ml M22 x0 xn xm ∧ ((0 ≤ x1 ∧ x1 < xm) ∧ (∀ M23 : qM, M23 = q_wn M22 (x0 + 7) x1 (w8 v21) → q_ml M23 x0 xn xm → q_WP q_Pr d 14 [.inr (.inr x0), .inl x1, .inl (q_nm M3 (x0 + 5) x1)] M23 (fun v24 M25 => q_ml M25 x0 xn xm ∧ ((0 ≤ x1 ∧ x1 < xm) ∧ (((q_nm M25 (x0 + 4) x1) = (3 : Int) → ((0 ≤ x1 ∧ x1 < xm) ∧ q_WP q_Pr d 14 [.inr (.inr x0), .inl x1, .inl (q_nm M25 (x0 + 6) x1)] M25 (fun v26 M27 => q_ml M27 x0 xn xm ∧ q_WP q_Pr d 15 [.inr (.inr x0), .inl x1] M27 (fun v28 M29 => q_ml M29 x0 xn xm ∧ ((0 ≤ x1 ∧ x1 < xm) ∧ (∀ M30 : qM, M30 = q_wn M29 (x0 + 10) x1 v28 → q_ml M30 x0 xn xm → (q_At q_m13 (q_WP q_Pr d) P 2 [(0, .inr (.inr x0)), (1, .inl (w32 (x1 + 1)))] [] M30 c s))))))) ∧ (¬ (q_nm M25 (x0 + 4) x1) = (3 : Int) → ((0 ≤ x1 ∧ x1 < xm) ∧ ((¬ (q_nm M25 (x0 + 4) x1) = (4 : Int) → q_WP q_Pr d 15 [.inr (.inr x0), .inl x1] M25 (fun v31 M32 => q_ml M32 x0 xn xm ∧ ((0 ≤ x1 ∧ x1 < xm) ∧ (∀ M33 : qM, M33 = q_wn M32 (x0 + 10) x1 v31 → q_ml M33 x0 xn xm → (q_At q_m13 (q_WP q_Pr d) P 2 [(0, .inr (.inr x0)), (1, .inl (w32 (x1 + 1)))] [] M33 c s))))) ∧ ((q_nm M25 (x0 + 4) x1) = (4 : Int) → ((0 ≤ x1 ∧ x1 < xm) ∧ q_WP q_Pr d 14 [.inr (.inr x0), .inl x1, .inl (q_nm M25 (x0 + 6) x1)] M25 (fun v34 M35 => q_ml M35 x0 xn xm ∧ q_WP q_Pr d 15 [.inr (.inr x0), .inl x1] M35 (fun v36 M37 => q_ml M37 x0 xn xm ∧ ((0 ≤ x1 ∧ x1 < xm) ∧ (∀ M38 : qM, M38 = q_wn M37 (x0 + 10) x1 v36 → q_ml M38 x0 xn xm → (q_At q_m13 (q_WP q_Pr d) P 2 [(0, .inr (.inr x0)), (1, .inl (w32 (x1 + 1)))] [] M38 c s)))))))))))))))))))))))))))))))) : q_At q_m13 (q_WP q_Pr d) P 2 [(0, .inr (.inr x0)), (1, .inl x1)] [] M c s := by
  refine s_13_2 ?_
  rw [mk0 hl, mr7 hl, ml7 hl, mk7 hl, q_bs12]
  refine ⟨rfl, ?_⟩
  refine ⟨?_, ?_⟩
  · replace h := h.1
    intro g
    replace h := h g
    exact h
  · replace h := h.2
    intro g
    replace h := h g
    refine ⟨rfl, ?_⟩
    refine ⟨⟨Or.inl rfl, h.1⟩, ?_⟩
    replace h := h.2
    intro M1
    have hlM1 : q_ml M1 x0 xn xm := q_ml_wn hl
    replace h := h M1 rfl hlM1
    rw [mk0 hlM1, mr8 hlM1, ml8 hlM1, mk8 hlM1, q_bs16_1]
    refine ⟨rfl, ?_⟩
    refine ⟨⟨Or.inr rfl, h.1⟩, ?_⟩
    replace h := h.2
    intro M2
    have hlM2 : q_ml M2 x0 xn xm := q_ml_wn hlM1
    replace h := h M2 rfl hlM2
    rw [mk0 hlM2, mr9 hlM2, ml9 hlM2, mk9 hlM2]
    refine ⟨rfl, ?_⟩
    refine ⟨⟨⟨by have := q_ml_ge hlM2; omega, rfl⟩, h.1⟩, ?_⟩
    replace h := h.2
    intro M3
    have hlM3 : q_ml M3 x0 xn xm := q_ml_wn hlM2
    replace h := h M3 rfl hlM3
    rw [mk0 hlM3, mr4 hlM3, ml4 hlM3, mk4 hlM3, mr6 hlM3, ml6 hlM3, mk6 hlM3, mr10 hlM3, mr5 hlM3, ml5 hlM3, mk5 hlM3, mr1 hlM3, ml1 hlM3, mk1 hlM3, mr0 hlM3, mr7 hlM3]
    refine ⟨rfl, ?_⟩
    refine ⟨⟨Or.inl rfl, h.1⟩, ?_⟩
    replace h := h.2
    refine ⟨?_, ?_⟩
    · replace h := h.1
      intro g
      replace h := h g
      refine ⟨rfl, ?_⟩
      refine ⟨⟨Or.inl rfl, h.1⟩, ?_⟩
      replace h := h.2
      refine ⟨?_, ?_⟩
      · replace h := h.1
        intro g
        replace h := h g
        refine ⟨rfl, ?_⟩
        refine ⟨⟨Or.inl rfl, h.1⟩, ?_⟩
        replace h := h.2
        refine ⟨rfl, ?_⟩
        refine q_WP_mono _ _ _ _ _ _ (fun v4 M5 hh => ?_) h
        obtain ⟨hlM5, h⟩ := hh
        rw [mk0 hlM5, mr10 hlM5]
        refine ⟨rfl, ?_⟩
        refine ⟨rfl, ?_⟩
        refine q_WP_mono _ _ _ _ _ _ (fun v6 M7 hh => ?_) h
        obtain ⟨hlM7, h⟩ := hh
        rw [ml10 hlM7, mk10 hlM7]
        refine ⟨⟨rfl, h.1⟩, ?_⟩
        replace h := h.2
        intro M8
        have hlM8 : q_ml M8 x0 xn xm := q_ml_wn hlM7
        replace h := h M8 rfl hlM8
        exact h
      · replace h := h.2
        intro g
        replace h := h g
        refine ⟨rfl, ?_⟩
        refine ⟨⟨Or.inl rfl, h.1⟩, ?_⟩
        replace h := h.2
        refine ⟨?_, ?_⟩
        · replace h := h.1
          intro g
          replace h := h g
          refine ⟨rfl, ?_⟩
          refine ⟨rfl, ?_⟩
          refine q_WP_mono _ _ _ _ _ _ (fun v9 M10 hh => ?_) h
          obtain ⟨hlM10, h⟩ := hh
          rw [ml10 hlM10, mk10 hlM10]
          refine ⟨⟨rfl, h.1⟩, ?_⟩
          replace h := h.2
          intro M11
          have hlM11 : q_ml M11 x0 xn xm := q_ml_wn hlM10
          replace h := h M11 rfl hlM11
          exact h
        · replace h := h.2
          intro g
          replace h := h g
          refine ⟨rfl, ?_⟩
          refine ⟨⟨Or.inl rfl, h.1⟩, ?_⟩
          replace h := h.2
          refine ⟨rfl, ?_⟩
          refine q_WP_mono _ _ _ _ _ _ (fun v12 M13 hh => ?_) h
          obtain ⟨hlM13, h⟩ := hh
          rw [mk0 hlM13, mr10 hlM13]
          refine ⟨rfl, ?_⟩
          refine ⟨rfl, ?_⟩
          refine q_WP_mono _ _ _ _ _ _ (fun v14 M15 hh => ?_) h
          obtain ⟨hlM15, h⟩ := hh
          rw [ml10 hlM15, mk10 hlM15]
          refine ⟨⟨rfl, h.1⟩, ?_⟩
          replace h := h.2
          intro M16
          have hlM16 : q_ml M16 x0 xn xm := q_ml_wn hlM15
          replace h := h M16 rfl hlM16
          exact h
    · replace h := h.2
      intro g
      replace h := h g
      refine ⟨rfl, ?_⟩
      refine ⟨⟨Or.inl rfl, h.1⟩, ?_⟩
      replace h := h.2
      refine ⟨rfl, ?_⟩
      refine ⟨rfl, ?_⟩
      refine ⟨rfl, ?_⟩
      refine ⟨⟨rfl, h.1⟩, ?_⟩
      replace h := h.2
      refine ⟨rfl, ?_⟩
      refine q_WP_mono _ _ _ _ _ _ (fun v17 M18 hh => ?_) h
      obtain ⟨hlM18, h⟩ := hh
      rw [mk0 hlM18]
      refine ⟨rfl, ?_⟩
      refine q_WP_mono _ _ _ _ _ _ (fun v19 M20 hh => ?_) h
      obtain ⟨hlM20, h⟩ := hh
      rw [lk3 hlM20.1]
      refine ⟨rfl, ?_⟩
      refine q_WP_mono _ _ _ _ _ _ (fun v21 M22 hh => ?_) h
      obtain ⟨hlM22, h⟩ := hh
      rw [ml7 hlM22, mk7 hlM22, q_bs12, w8_w8]
      refine ⟨⟨Or.inl rfl, h.1⟩, ?_⟩
      replace h := h.2
      intro M23
      have hlM23 : q_ml M23 x0 xn xm := q_ml_wn hlM22
      replace h := h M23 rfl hlM23
      rw [mk0 hlM23]
      refine ⟨rfl, ?_⟩
      refine q_WP_mono _ _ _ _ _ _ (fun v24 M25 hh => ?_) h
      obtain ⟨hlM25, h⟩ := hh
      rw [mk0 hlM25, mr4 hlM25, ml4 hlM25, mk4 hlM25, mr6 hlM25, ml6 hlM25, mk6 hlM25, mr10 hlM25]
      refine ⟨rfl, ?_⟩
      refine ⟨⟨Or.inl rfl, h.1⟩, ?_⟩
      replace h := h.2
      refine ⟨?_, ?_⟩
      · replace h := h.1
        intro g
        replace h := h g
        refine ⟨rfl, ?_⟩
        refine ⟨⟨Or.inl rfl, h.1⟩, ?_⟩
        replace h := h.2
        refine ⟨rfl, ?_⟩
        refine q_WP_mono _ _ _ _ _ _ (fun v26 M27 hh => ?_) h
        obtain ⟨hlM27, h⟩ := hh
        rw [mk0 hlM27, mr10 hlM27]
        refine ⟨rfl, ?_⟩
        refine ⟨rfl, ?_⟩
        refine q_WP_mono _ _ _ _ _ _ (fun v28 M29 hh => ?_) h
        obtain ⟨hlM29, h⟩ := hh
        rw [ml10 hlM29, mk10 hlM29]
        refine ⟨⟨rfl, h.1⟩, ?_⟩
        replace h := h.2
        intro M30
        have hlM30 : q_ml M30 x0 xn xm := q_ml_wn hlM29
        replace h := h M30 rfl hlM30
        exact h
      · replace h := h.2
        intro g
        replace h := h g
        refine ⟨rfl, ?_⟩
        refine ⟨⟨Or.inl rfl, h.1⟩, ?_⟩
        replace h := h.2
        refine ⟨?_, ?_⟩
        · replace h := h.1
          intro g
          replace h := h g
          refine ⟨rfl, ?_⟩
          refine ⟨rfl, ?_⟩
          refine q_WP_mono _ _ _ _ _ _ (fun v31 M32 hh => ?_) h
          obtain ⟨hlM32, h⟩ := hh
          rw [ml10 hlM32, mk10 hlM32]
          refine ⟨⟨rfl, h.1⟩, ?_⟩
          replace h := h.2
          intro M33
          have hlM33 : q_ml M33 x0 xn xm := q_ml_wn hlM32
          replace h := h M33 rfl hlM33
          exact h
        · replace h := h.2
          intro g
          replace h := h g
          refine ⟨rfl, ?_⟩
          refine ⟨⟨Or.inl rfl, h.1⟩, ?_⟩
          replace h := h.2
          refine ⟨rfl, ?_⟩
          refine q_WP_mono _ _ _ _ _ _ (fun v34 M35 hh => ?_) h
          obtain ⟨hlM35, h⟩ := hh
          rw [mk0 hlM35, mr10 hlM35]
          refine ⟨rfl, ?_⟩
          refine ⟨rfl, ?_⟩
          refine q_WP_mono _ _ _ _ _ _ (fun v36 M37 hh => ?_) h
          obtain ⟨hlM37, h⟩ := hh
          rw [ml10 hlM37, mk10 hlM37]
          refine ⟨⟨rfl, h.1⟩, ?_⟩
          replace h := h.2
          intro M38
          have hlM38 : q_ml M38 x0 xn xm := q_ml_wn hlM37
          replace h := h M38 rfl hlM38
          exact h
theorem t_14_0 {d : Nat} {P : Int → qM → Prop} {xn xm : Int} {x0 x1 x2 : Int} {M : qM} {c s : Nat} (hl : q_ml M x0 xn xm) (h : q_WP q_Pr d 11 [.inr (.inr x0), .inl x1, .inl x2] M (fun v1 M2 => q_ml M2 x0 xn xm ∧ q_WP q_Pr d 12 [.inr (.inr x0), .inl x1, .inl x2] M2 (fun v3 M4 => q_ml M4 x0 xn xm ∧ q_WP q_Pr d 88 [.inr (.inr 3), .inl v1, .inl v3] M4 (fun v5 M6 => q_ml M6 x0 xn xm ∧ ((¬ v5 = (-1 : Int) → ((0 ≤ x1 ∧ x1 < xm) ∧ ((0 ≤ v5 ∧ v5 < 30) ∧ ((0 ≤ x1 ∧ x1 < xm) ∧ (∀ M7 : qM, M7 = q_wn M6 (x0 + 9) x1 (q_or (q_nm M6 (x0 + 9) x1) (q_shl (1 : Int) (q_nm M6 8 v5))) → q_ml M7 x0 xn xm → (P (0 : Int) M7)))))) ∧ (v5 = (-1 : Int) → ((0 ≤ x1 ∧ x1 < xm) ∧ (∀ M8 : qM, M8 = q_wn M6 (x0 + 8) x1 (0 : Int) → q_ml M8 x0 xn xm → (P (0 : Int) M8))))))))) : q_At q_m14 (q_WP q_Pr d) P 0 [(0, .inr (.inr x0)), (1, .inl x1), (2, .inl x2)] [] M c s := by
  refine s_14_0 ?_
  rw [mk0 hl, mr0 hl]
  refine ⟨rfl, ?_⟩
  refine ⟨rfl, ?_⟩
  refine q_WP_mono _ _ _ _ _ _ (fun v1 M2 hh => ?_) h
  obtain ⟨hlM2, h⟩ := hh
  rw [mk0 hlM2]
  refine ⟨rfl, ?_⟩
  refine q_WP_mono _ _ _ _ _ _ (fun v3 M4 hh => ?_) h
  obtain ⟨hlM4, h⟩ := hh
  rw [lk3 hlM4.1]
  refine ⟨rfl, ?_⟩
  refine q_WP_mono _ _ _ _ _ _ (fun v5 M6 hh => ?_) h
  obtain ⟨hlM6, h⟩ := hh
  rw [mk0 hlM6, mr9 hlM6, ml9 hlM6, mk9 hlM6, mr0 hlM6, lk3 hlM6.1, lr3_4 hlM6.1, ll8 hlM6.1, lk8 hlM6.1, mr8 hlM6, ml8 hlM6, mk8 hlM6, q_bs16_0]
  refine ⟨?_, ?_⟩
  · replace h := h.1
    intro g
    replace h := h g
    refine ⟨rfl, ?_⟩
    refine ⟨⟨rfl, h.1⟩, ?_⟩
    replace h := h.2
    refine ⟨rfl, ?_⟩
    refine ⟨rfl, ?_⟩
    refine ⟨⟨rfl, h.1⟩, ?_⟩
    replace h := h.2
    refine ⟨⟨⟨by have := q_ml_ge hlM6; omega, rfl⟩, h.1⟩, ?_⟩
    replace h := h.2
    intro M7
    have hlM7 : q_ml M7 x0 xn xm := q_ml_wn hlM6
    replace h := h M7 rfl hlM7
    exact h
  · replace h := h.2
    intro g
    replace h := h g
    refine ⟨rfl, ?_⟩
    refine ⟨⟨Or.inr rfl, h.1⟩, ?_⟩
    replace h := h.2
    intro M8
    have hlM8 : q_ml M8 x0 xn xm := q_ml_wn hlM6
    replace h := h M8 rfl hlM8
    exact h
theorem t_15_0 {d : Nat} {P : Int → qM → Prop} {xn xm : Int} {x0 x1 : Int} {M : qM} {c s : Nat} (hl : q_ml M x0 xn xm) (h : (q_At q_m15 (q_WP q_Pr d) P 5 [(0, .inr (.inr x0)), (1, .inl x1), (2, .inr (.inl (0 : Int))), (4, .inl (0 : Int))] [] M c s)) : q_At q_m15 (q_WP q_Pr d) P 0 [(0, .inr (.inr x0)), (1, .inl x1)] [] M c s := by
  refine s_15_0 ?_
  exact h
theorem t_15_5 {d : Nat} {P : Int → qM → Prop} {xn xm : Int} {x0 x1 x2 x4 : Int} {M : qM} {c s : Nat} (hl : q_ml M x0 xn xm) (h : ((xn ≤ x4 → (P x2 M)) ∧ (x4 < xn → q_WP q_Pr d 11 [.inr (.inr x0), .inl x1, .inl x4] M (fun v1 M2 => q_ml M2 x0 xn xm ∧ q_WP q_Pr d 12 [.inr (.inr x0), .inl x1, .inl x4] M2 (fun v3 M4 => q_ml M4 x0 xn xm ∧ ((¬ x4 = 0 → q_WP q_Pr d 85 [.inr (.inr 3), .inl v1, .inl v3] M4 (fun v5 M6 => q_ml M6 x0 xn xm ∧ ((0 ≤ v5 ∧ v5 < 17) ∧ q_WP q_Pr d 86 [.inr (.inr 3), .inl v1, .inl v3] M6 (fun v7 M8 => q_ml M8 x0 xn xm ∧ (q_At q_m15 (q_WP q_Pr d) P 5 [(0, .inr (.inr x0)), (1, .inl x1), (2, .inr (.inl (w64 ((w64 ((w64 ((w64 (x2 * (37 : Int))) + (27 : Int))) * (q_nm M6 12 v5))) + v7)))), (4, .inl (w32 (x4 + 1)))] [] M8 c s))))) ∧ (x4 = 0 → q_WP q_Pr d 85 [.inr (.inr 3), .inl v1, .inl v3] M4 (fun v9 M10 => q_ml M10 x0 xn xm ∧ ((0 ≤ v9 ∧ v9 < 17) ∧ q_WP q_Pr d 86 [.inr (.inr 3), .inl v1, .inl v3] M10 (fun v11 M12 => q_ml M12 x0 xn xm ∧ (q_At q_m15 (q_WP q_Pr d) P 5 [(0, .inr (.inr x0)), (1, .inl x1), (2, .inr (.inl (w64 ((w64 ((0 : Int) * (q_nm M10 12 v9))) + v11)))), (4, .inl (w32 (x4 + 1)))] [] M12 c s))))))))))) : q_At q_m15 (q_WP q_Pr d) P 5 [(0, .inr (.inr x0)), (1, .inl x1), (2, .inr (.inl x2)), (4, .inl x4)] [] M c s := by
  refine s_15_5 ?_
  rw [mk0 hl, mr1 hl, mk1 hl, ml1 hl]
  refine ⟨rfl, ?_⟩
  refine ⟨by decide, ?_⟩
  refine ⟨?_, ?_⟩
  · replace h := h.1
    intro g
    replace h := h g
    exact h
  · replace h := h.2
    intro g
    replace h := h g
    refine ⟨rfl, ?_⟩
    refine q_WP_mono _ _ _ _ _ _ (fun v1 M2 hh => ?_) h
    obtain ⟨hlM2, h⟩ := hh
    rw [mk0 hlM2]
    refine ⟨rfl, ?_⟩
    refine q_WP_mono _ _ _ _ _ _ (fun v3 M4 hh => ?_) h
    obtain ⟨hlM4, h⟩ := hh
    rw [mk0 hlM4, mr0 hlM4, lk3 hlM4.1, lr3_8 hlM4.1]
    refine ⟨?_, ?_⟩
    · replace h := h.1
      intro g
      replace h := h g
      refine ⟨rfl, ?_⟩
      refine ⟨rfl, ?_⟩
      refine ⟨rfl, ?_⟩
      refine ⟨rfl, ?_⟩
      refine q_WP_mono _ _ _ _ _ _ (fun v5 M6 hh => ?_) h
      obtain ⟨hlM6, h⟩ := hh
      rw [ll12 hlM6.1, lk12 hlM6.1, mk0 hlM6, mr0 hlM6, lk3 hlM6.1]
      refine ⟨⟨rfl, h.1⟩, ?_⟩
      replace h := h.2
      refine ⟨rfl, ?_⟩
      refine ⟨rfl, ?_⟩
      refine q_WP_mono _ _ _ _ _ _ (fun v7 M8 hh => ?_) h
      obtain ⟨hlM8, h⟩ := hh
      exact h
    · replace h := h.2
      intro g
      replace h := h g
      refine ⟨rfl, ?_⟩
      refine ⟨rfl, ?_⟩
      refine ⟨rfl, ?_⟩
      refine ⟨rfl, ?_⟩
      refine q_WP_mono _ _ _ _ _ _ (fun v9 M10 hh => ?_) h
      obtain ⟨hlM10, h⟩ := hh
      rw [ll12 hlM10.1, lk12 hlM10.1, mk0 hlM10, mr0 hlM10, lk3 hlM10.1]
      refine ⟨⟨rfl, h.1⟩, ?_⟩
      replace h := h.2
      refine ⟨rfl, ?_⟩
      refine ⟨rfl, ?_⟩
      refine q_WP_mono _ _ _ _ _ _ (fun v11 M12 hh => ?_) h
      obtain ⟨hlM12, h⟩ := hh
      exact h
theorem t_16_0 {d : Nat} {P : Int → qM → Prop} {xn xm : Int} {x0 : Int} {M : qM} {c s : Nat} (hl : q_ml M x0 xn xm) (h : q_WP q_Pr d 262 [.inr (.inr 18), .inl (0 : Int)] M (fun v1 M2 => q_ml M2 x0 xn xm ∧ (q_At q_m16 (q_WP q_Pr d) P 7 [(0, .inr (.inr x0)), (1, .inr (.inr 18)), (2, .inl (0 : Int))] [] M2 c s))) : q_At q_m16 (q_WP q_Pr d) P 0 [(0, .inr (.inr x0)), (1, .inr (.inr 18))] [] M c s := by
  refine s_16_0 ?_
  refine q_WP_mono _ _ _ _ _ _ (fun v1 M2 hh => ?_) h
  obtain ⟨hlM2, h⟩ := hh
  exact h
theorem t_16_7 {d : Nat} {P : Int → qM → Prop} {xn xm : Int} {x0 x2 : Int} {M : qM} {c s : Nat} (hl : q_ml M x0 xn xm) (h : (((q_nm M x0 3) ≤ x2 → (P (0 : Int) M)) ∧ (x2 < (q_nm M x0 3) → ((0 ≤ x2 ∧ x2 < xm) ∧ ((0 ≤ x2 ∧ x2 < xm) ∧ (q_At q_m16 (q_WP q_Pr d) P 40 [(0, .inr (.inr x0)), (1, .inr (.inr 18)), (2, .inl x2), (3, .inl (q_and (w32 (q_lxor (q_nm M (x0 + 10) x2) (q_lushr (q_nm M (x0 + 10) x2) (32 : Int)))) (1023 : Int))), (4, .inl (0 : Int))] [] M c s)))))) : q_At q_m16 (q_WP q_Pr d) P 7 [(0, .inr (.inr x0)), (1, .inr (.inr 18)), (2, .inl x2)] [] M c s := by
  refine s_16_7 ?_
  rw [mk0 hl, mr10 hl, ml10 hl, mk10 hl]
  refine ⟨rfl, ?_⟩
  refine ⟨?_, ?_⟩
  · replace h := h.1
    intro g
    replace h := h g
    exact h
  · replace h := h.2
    intro g
    replace h := h g
    refine ⟨rfl, ?_⟩
    refine ⟨⟨rfl, h.1⟩, ?_⟩
    replace h := h.2
    refine ⟨rfl, ?_⟩
    refine ⟨⟨rfl, h.1⟩, ?_⟩
    replace h := h.2
    exact h
theorem t_16_40 {d : Nat} {P : Int → qM → Prop} {xn xm : Int} {x0 x2 x3 x4 : Int} {M : qM} {c s : Nat} (hl : q_ml M x0 xn xm) (h : (((1024 : Int) ≤ x4 → ((0 ≤ x3 ∧ x3 < 1024) ∧ ((¬ (q_nm M 18 x3) = 0 → ((0 ≤ x3 ∧ x3 < 1024) ∧ ((0 ≤ x2 ∧ x2 < xm) ∧ (∀ M1 : qM, M1 = q_wn M (x0 + 11) x2 (w32 ((q_nm M 18 x3) - (1 : Int))) → q_ml M1 x0 xn xm → (q_At q_m16 (q_WP q_Pr d) P 7 [(0, .inr (.inr x0)), (1, .inr (.inr 18)), (2, .inl (w32 (x2 + 1)))] [] M1 c s))))) ∧ ((q_nm M 18 x3) = 0 → ((0 ≤ x3 ∧ x3 < 1024) ∧ (∀ M2 : qM, M2 = q_wn M 18 x3 (w32 (x2 + (1 : Int))) → q_ml M2 x0 xn xm → ((0 ≤ x3 ∧ x3 < 1024) ∧ ((0 ≤ x2 ∧ x2 < xm) ∧ (∀ M3 : qM, M3 = q_wn M2 (x0 + 11) x2 (w32 ((q_nm M2 18 x3) - (1 : Int))) → q_ml M3 x0 xn xm → (q_At q_m16 (q_WP q_Pr d) P 7 [(0, .inr (.inr x0)), (1, .inr (.inr 18)), (2, .inl (w32 (x2 + 1)))] [] M3 c s)))))))))) ∧ (x4 < (1024 : Int) → ((0 ≤ x3 ∧ x3 < 1024) ∧ (((q_nm M 18 x3) = 0 → ((0 ≤ x3 ∧ x3 < 1024) ∧ ((¬ (q_nm M 18 x3) = 0 → ((0 ≤ x3 ∧ x3 < 1024) ∧ ((0 ≤ x2 ∧ x2 < xm) ∧ (∀ M4 : qM, M4 = q_wn M (x0 + 11) x2 (w32 ((q_nm M 18 x3) - (1 : Int))) → q_ml M4 x0 xn xm → (q_At q_m16 (q_WP q_Pr d) P 7 [(0, .inr (.inr x0)), (1, .inr (.inr 18)), (2, .inl (w32 (x2 + 1)))] [] M4 c s))))) ∧ ((q_nm M 18 x3) = 0 → ((0 ≤ x3 ∧ x3 < 1024) ∧ (∀ M5 : qM, M5 = q_wn M 18 x3 (w32 (x2 + (1 : Int))) → q_ml M5 x0 xn xm → ((0 ≤ x3 ∧ x3 < 1024) ∧ ((0 ≤ x2 ∧ x2 < xm) ∧ (∀ M6 : qM, M6 = q_wn M5 (x0 + 11) x2 (w32 ((q_nm M5 18 x3) - (1 : Int))) → q_ml M6 x0 xn xm → (q_At q_m16 (q_WP q_Pr d) P 7 [(0, .inr (.inr x0)), (1, .inr (.inr 18)), (2, .inl (w32 (x2 + 1)))] [] M6 c s)))))))))) ∧ (¬ (q_nm M 18 x3) = 0 → ((0 ≤ x3 ∧ x3 < 1024) ∧ q_WP q_Pr d 17 [.inr (.inr x0), .inl x2, .inl (w32 ((q_nm M 18 x3) - (1 : Int)))] M (fun v7 M8 => q_ml M8 x0 xn xm ∧ ((¬ v7 = 0 → ((0 ≤ x3 ∧ x3 < 1024) ∧ ((¬ (q_nm M8 18 x3) = 0 → ((0 ≤ x3 ∧ x3 < 1024) ∧ ((0 ≤ x2 ∧ x2 < xm) ∧ (∀ M9 : qM, M9 = q_wn M8 (x0 + 11) x2 (w32 ((q_nm M8 18 x3) - (1 : Int))) → q_ml M9 x0 xn xm → (q_At q_m16 (q_WP q_Pr d) P 7 [(0, .inr (.inr x0)), (1, .inr (.inr 18)), (2, .inl (w32 (x2 + 1)))] [] M9 c s))))) ∧ ((q_nm M8 18 x3) = 0 → ((0 ≤ x3 ∧ x3 < 1024) ∧ (∀ M10 : qM, M10 = q_wn M8 18 x3 (w32 (x2 + (1 : Int))) → q_ml M10 x0 xn xm → ((0 ≤ x3 ∧ x3 < 1024) ∧ ((0 ≤ x2 ∧ x2 < xm) ∧ (∀ M11 : qM, M11 = q_wn M10 (x0 + 11) x2 (w32 ((q_nm M10 18 x3) - (1 : Int))) → q_ml M11 x0 xn xm → (q_At q_m16 (q_WP q_Pr d) P 7 [(0, .inr (.inr x0)), (1, .inr (.inr 18)), (2, .inl (w32 (x2 + 1)))] [] M11 c s)))))))))) ∧ (v7 = 0 → (q_At q_m16 (q_WP q_Pr d) P 40 [(0, .inr (.inr x0)), (1, .inr (.inr 18)), (2, .inl x2), (3, .inl (q_and (w32 (x3 + (1 : Int))) (1023 : Int))), (4, .inl (w32 (x4 + 1)))] [] M8 c s))))))))))) : q_At q_m16 (q_WP q_Pr d) P 40 [(0, .inr (.inr x0)), (1, .inr (.inr 18)), (2, .inl x2), (3, .inl x3), (4, .inl x4)] [] M c s := by
  refine s_16_40 ?_
  rw [ll18 hl.1, lk18 hl.1, mk0 hl, mr11 hl, ml11 hl, mk11 hl]
  refine ⟨?_, ?_⟩
  · replace h := h.1
    intro g
    replace h := h g
    refine ⟨⟨rfl, h.1⟩, ?_⟩
    replace h := h.2
    refine ⟨?_, ?_⟩
    · replace h := h.1
      intro g
      replace h := h g
      refine ⟨rfl, ?_⟩
      refine ⟨⟨rfl, h.1⟩, ?_⟩
      replace h := h.2
      refine ⟨⟨⟨by have := q_ml_ge hl; omega, rfl⟩, h.1⟩, ?_⟩
      replace h := h.2
      intro M1
      have hlM1 : q_ml M1 x0 xn xm := q_ml_wn hl
      replace h := h M1 rfl hlM1
      exact h
    · replace h := h.2
      intro g
      replace h := h g
      refine ⟨⟨⟨by decide, rfl⟩, h.1⟩, ?_⟩
      replace h := h.2
      intro M2
      have hlM2 : q_ml M2 x0 xn xm := q_ml_wn hl
      replace h := h M2 rfl hlM2
      rw [mk0 hlM2, ll18 hlM2.1, lk18 hlM2.1, mr11 hlM2, ml11 hlM2, mk11 hlM2]
      refine ⟨rfl, ?_⟩
      refine ⟨⟨rfl, h.1⟩, ?_⟩
      replace h := h.2
      refine ⟨⟨⟨by have := q_ml_ge hlM2; omega, rfl⟩, h.1⟩, ?_⟩
      replace h := h.2
      intro M3
      have hlM3 : q_ml M3 x0 xn xm := q_ml_wn hlM2
      replace h := h M3 rfl hlM3
      exact h
  · replace h := h.2
    intro g
    replace h := h g
    refine ⟨⟨rfl, h.1⟩, ?_⟩
    replace h := h.2
    refine ⟨?_, ?_⟩
    · replace h := h.1
      intro g
      replace h := h g
      refine ⟨⟨rfl, h.1⟩, ?_⟩
      replace h := h.2
      refine ⟨?_, ?_⟩
      · replace h := h.1
        intro g
        replace h := h g
        refine ⟨rfl, ?_⟩
        refine ⟨⟨rfl, h.1⟩, ?_⟩
        replace h := h.2
        refine ⟨⟨⟨by have := q_ml_ge hl; omega, rfl⟩, h.1⟩, ?_⟩
        replace h := h.2
        intro M4
        have hlM4 : q_ml M4 x0 xn xm := q_ml_wn hl
        replace h := h M4 rfl hlM4
        exact h
      · replace h := h.2
        intro g
        replace h := h g
        refine ⟨⟨⟨by decide, rfl⟩, h.1⟩, ?_⟩
        replace h := h.2
        intro M5
        have hlM5 : q_ml M5 x0 xn xm := q_ml_wn hl
        replace h := h M5 rfl hlM5
        rw [mk0 hlM5, ll18 hlM5.1, lk18 hlM5.1, mr11 hlM5, ml11 hlM5, mk11 hlM5]
        refine ⟨rfl, ?_⟩
        refine ⟨⟨rfl, h.1⟩, ?_⟩
        replace h := h.2
        refine ⟨⟨⟨by have := q_ml_ge hlM5; omega, rfl⟩, h.1⟩, ?_⟩
        replace h := h.2
        intro M6
        have hlM6 : q_ml M6 x0 xn xm := q_ml_wn hlM5
        replace h := h M6 rfl hlM6
        exact h
    · replace h := h.2
      intro g
      replace h := h g
      refine ⟨⟨rfl, h.1⟩, ?_⟩
      replace h := h.2
      refine ⟨rfl, ?_⟩
      refine q_WP_mono _ _ _ _ _ _ (fun v7 M8 hh => ?_) h
      obtain ⟨hlM8, h⟩ := hh
      rw [ll18 hlM8.1, lk18 hlM8.1, mk0 hlM8, mr11 hlM8, ml11 hlM8, mk11 hlM8]
      refine ⟨?_, ?_⟩
      · replace h := h.1
        intro g
        replace h := h g
        refine ⟨⟨rfl, h.1⟩, ?_⟩
        replace h := h.2
        refine ⟨?_, ?_⟩
        · replace h := h.1
          intro g
          replace h := h g
          refine ⟨rfl, ?_⟩
          refine ⟨⟨rfl, h.1⟩, ?_⟩
          replace h := h.2
          refine ⟨⟨⟨by have := q_ml_ge hlM8; omega, rfl⟩, h.1⟩, ?_⟩
          replace h := h.2
          intro M9
          have hlM9 : q_ml M9 x0 xn xm := q_ml_wn hlM8
          replace h := h M9 rfl hlM9
          exact h
        · replace h := h.2
          intro g
          replace h := h g
          refine ⟨⟨⟨by decide, rfl⟩, h.1⟩, ?_⟩
          replace h := h.2
          intro M10
          have hlM10 : q_ml M10 x0 xn xm := q_ml_wn hlM8
          replace h := h M10 rfl hlM10
          rw [mk0 hlM10, ll18 hlM10.1, lk18 hlM10.1, mr11 hlM10, ml11 hlM10, mk11 hlM10]
          refine ⟨rfl, ?_⟩
          refine ⟨⟨rfl, h.1⟩, ?_⟩
          replace h := h.2
          refine ⟨⟨⟨by have := q_ml_ge hlM10; omega, rfl⟩, h.1⟩, ?_⟩
          replace h := h.2
          intro M11
          have hlM11 : q_ml M11 x0 xn xm := q_ml_wn hlM10
          replace h := h M11 rfl hlM11
          exact h
      · replace h := h.2
        intro g
        replace h := h g
        exact h
theorem t_17_0 {d : Nat} {P : Int → qM → Prop} {xn xm : Int} {x0 x1 x2 : Int} {M : qM} {c s : Nat} (hl : q_ml M x0 xn xm) (h : ((0 ≤ x1 ∧ x1 < xm) ∧ ((0 ≤ x2 ∧ x2 < xm) ∧ (((q_lc (q_nm M (x0 + 10) x1) (q_nm M (x0 + 10) x2)) = 0 → (q_At q_m17 (q_WP q_Pr d) P 20 [(0, .inr (.inr x0)), (1, .inl x1), (2, .inl x2), (3, .inl (0 : Int))] [] M c s)) ∧ (¬ (q_lc (q_nm M (x0 + 10) x1) (q_nm M (x0 + 10) x2)) = 0 → (P (0 : Int) M)))))) : q_At q_m17 (q_WP q_Pr d) P 0 [(0, .inr (.inr x0)), (1, .inl x1), (2, .inl x2)] [] M c s := by
  refine s_17_0 ?_
  rw [mk0 hl, mr10 hl, ml10 hl, mk10 hl]
  refine ⟨rfl, ?_⟩
  refine ⟨⟨rfl, h.1⟩, ?_⟩
  replace h := h.2
  refine ⟨rfl, ?_⟩
  refine ⟨⟨rfl, h.1⟩, ?_⟩
  replace h := h.2
  refine ⟨?_, ?_⟩
  · replace h := h.1
    intro g
    replace h := h g
    exact h
  · replace h := h.2
    intro g
    replace h := h g
    refine ⟨⟨by decide, by decide⟩, ?_⟩
    exact h
theorem t_17_20 {d : Nat} {P : Int → qM → Prop} {xn xm : Int} {x0 x1 x2 x3 : Int} {M : qM} {c s : Nat} (hl : q_ml M x0 xn xm) (h : ((xn ≤ x3 → (P (1 : Int) M)) ∧ (x3 < xn → q_WP q_Pr d 11 [.inr (.inr x0), .inl x1, .inl x3] M (fun v1 M2 => q_ml M2 x0 xn xm ∧ q_WP q_Pr d 12 [.inr (.inr x0), .inl x1, .inl x3] M2 (fun v3 M4 => q_ml M4 x0 xn xm ∧ q_WP q_Pr d 11 [.inr (.inr x0), .inl x2, .inl x3] M4 (fun v5 M6 => q_ml M6 x0 xn xm ∧ q_WP q_Pr d 12 [.inr (.inr x0), .inl x2, .inl x3] M6 (fun v7 M8 => q_ml M8 x0 xn xm ∧ q_WP q_Pr d 89 [.inr (.inr 3), .inl v1, .inl v3, .inl v5, .inl v7] M8 (fun v9 M10 => q_ml M10 x0 xn xm ∧ ((¬ v9 = 0 → (q_At q_m17 (q_WP q_Pr d) P 20 [(0, .inr (.inr x0)), (1, .inl x1), (2, .inl x2), (3, .inl (w32 (x3 + 1)))] [] M10 c s)) ∧ (v9 = 0 → (P (0 : Int) M10))))))))))) : q_At q_m17 (q_WP q_Pr d) P 20 [(0, .inr (.inr x0)), (1, .inl x1), (2, .inl x2), (3, .inl x3)] [] M c s := by
  refine s_17_20 ?_
  rw [mk0 hl, mr1 hl, mk1 hl, ml1 hl, mr0 hl]
  refine ⟨rfl, ?_⟩
  refine ⟨by decide, ?_⟩
  refine ⟨?_, ?_⟩
  · replace h := h.1
    intro g
    replace h := h g
    refine ⟨⟨by decide, by decide⟩, ?_⟩
    exact h
  · replace h := h.2
    intro g
    replace h := h g
    refine ⟨rfl, ?_⟩
    refine ⟨rfl, ?_⟩
    refine q_WP_mono _ _ _ _ _ _ (fun v1 M2 hh => ?_) h
    obtain ⟨hlM2, h⟩ := hh
    rw [mk0 hlM2]
    refine ⟨rfl, ?_⟩
    refine q_WP_mono _ _ _ _ _ _ (fun v3 M4 hh => ?_) h
    obtain ⟨hlM4, h⟩ := hh
    rw [mk0 hlM4]
    refine ⟨rfl, ?_⟩
    refine q_WP_mono _ _ _ _ _ _ (fun v5 M6 hh => ?_) h
    obtain ⟨hlM6, h⟩ := hh
    rw [mk0 hlM6]
    refine ⟨rfl, ?_⟩
    refine q_WP_mono _ _ _ _ _ _ (fun v7 M8 hh => ?_) h
    obtain ⟨hlM8, h⟩ := hh
    rw [lk3 hlM8.1]
    refine ⟨rfl, ?_⟩
    refine q_WP_mono _ _ _ _ _ _ (fun v9 M10 hh => ?_) h
    obtain ⟨hlM10, h⟩ := hh
    refine ⟨?_, ?_⟩
    · replace h := h.1
      intro g
      replace h := h g
      exact h
    · replace h := h.2
      intro g
      replace h := h g
      refine ⟨⟨by decide, by decide⟩, ?_⟩
      exact h
theorem t_18_0 {d : Nat} {P : Int → qM → Prop} {xn xm : Int} {x0 x1 x2 : Int} {M : qM} {c s : Nat} (hl : q_ml M x0 xn xm) (h : ((q_kd M x2 = 6) ∧ (∀ M1 : qM, M1 = q_wn M x2 1 (0 : Int) → q_ml M1 x0 xn xm → (q_At q_m18 (q_WP q_Pr d) P 7 [(0, .inr (.inr x0)), (1, .inl x1), (2, .inr (.inr x2)), (3, .inl (0 : Int))] [] M1 c s)))) : q_At q_m18 (q_WP q_Pr d) P 0 [(0, .inr (.inr x0)), (1, .inl x1), (2, .inr (.inr x2))] [] M c s := by
  refine s_18_0 ?_
  refine ⟨h.1, ?_⟩
  replace h := h.2
  intro M1
  have hlM1 : q_ml M1 x0 xn xm := q_ml_wn hl
  replace h := h M1 rfl hlM1
  exact h
theorem t_18_7 {d : Nat} {P : Int → qM → Prop} {xn xm : Int} {x0 x1 x2 x3 : Int} {M : qM} {c s : Nat} (hl : q_ml M x0 xn xm) (h : ((xn ≤ x3 → (P (0 : Int) M)) ∧ (x3 < xn → ((x3 ≤ 0 → q_WP q_Pr d 11 [.inr (.inr x0), .inl x1, .inl x3] M (fun v1 M2 => q_ml M2 x0 xn xm ∧ q_WP q_Pr d 12 [.inr (.inr x0), .inl x1, .inl x3] M2 (fun v3 M4 => q_ml M4 x0 xn xm ∧ q_WP q_Pr d 85 [.inr (.inr 3), .inl v1, .inl v3] M4 (fun v5 M6 => q_ml M6 x0 xn xm ∧ (q_At q_m18 (q_WP q_Pr d) P 58 [(0, .inr (.inr x0)), (1, .inl x1), (2, .inr (.inr x2)), (3, .inl x3), (4, .inl v1), (5, .inl v3), (6, .inl v5), (7, .inl (0 : Int))] [] M6 c s))))) ∧ (0 < x3 → ((q_kd M x2 = 6) ∧ q_WP q_Pr d 59 [.inr (.inr x2), .inl (32 : Int)] M (fun v7 M8 => q_ml M8 x0 xn xm ∧ q_WP q_Pr d 11 [.inr (.inr x0), .inl x1, .inl x3] M8 (fun v9 M10 => q_ml M10 x0 xn xm ∧ q_WP q_Pr d 12 [.inr (.inr x0), .inl x1, .inl x3] M10 (fun v11 M12 => q_ml M12 x0 xn xm ∧ q_WP q_Pr d 85 [.inr (.inr 3), .inl v9, .inl v11] M12 (fun v13 M14 => q_ml M14 x0 xn xm ∧ (q_At q_m18 (q_WP q_Pr d) P 58 [(0, .inr (.inr x0)), (1, .inl x1), (2, .inr (.inr x2)), (3, .inl x3), (4, .inl v9), (5, .inl v11), (6, .inl v13), (7, .inl (0 : Int))] [] M14 c s))))))))))) : q_At q_m18 (q_WP q_Pr d) P 7 [(0, .inr (.inr x0)), (1, .inl x1), (2, .inr (.inr x2)), (3, .inl x3)] [] M c s := by
  refine s_18_7 ?_
  rw [mk0 hl, mr1 hl, mk1 hl, ml1 hl]
  refine ⟨rfl, ?_⟩
  refine ⟨by decide, ?_⟩
  refine ⟨?_, ?_⟩
  · replace h := h.1
    intro g
    replace h := h g
    exact h
  · replace h := h.2
    intro g
    replace h := h g
    refine ⟨?_, ?_⟩
    · replace h := h.1
      intro g
      replace h := h g
      refine ⟨rfl, ?_⟩
      refine q_WP_mono _ _ _ _ _ _ (fun v1 M2 hh => ?_) h
      obtain ⟨hlM2, h⟩ := hh
      rw [mk0 hlM2]
      refine ⟨rfl, ?_⟩
      refine q_WP_mono _ _ _ _ _ _ (fun v3 M4 hh => ?_) h
      obtain ⟨hlM4, h⟩ := hh
      rw [mk0 hlM4, mr0 hlM4, lk3 hlM4.1]
      refine ⟨rfl, ?_⟩
      refine ⟨rfl, ?_⟩
      refine q_WP_mono _ _ _ _ _ _ (fun v5 M6 hh => ?_) h
      obtain ⟨hlM6, h⟩ := hh
      exact h
    · replace h := h.2
      intro g
      replace h := h g
      refine ⟨h.1, ?_⟩
      replace h := h.2
      refine q_WP_mono _ _ _ _ _ _ (fun v7 M8 hh => ?_) h
      obtain ⟨hlM8, h⟩ := hh
      rw [mk0 hlM8]
      refine ⟨rfl, ?_⟩
      refine q_WP_mono _ _ _ _ _ _ (fun v9 M10 hh => ?_) h
      obtain ⟨hlM10, h⟩ := hh
      rw [mk0 hlM10]
      refine ⟨rfl, ?_⟩
      refine q_WP_mono _ _ _ _ _ _ (fun v11 M12 hh => ?_) h
      obtain ⟨hlM12, h⟩ := hh
      rw [mk0 hlM12, mr0 hlM12, lk3 hlM12.1]
      refine ⟨rfl, ?_⟩
      refine ⟨rfl, ?_⟩
      refine q_WP_mono _ _ _ _ _ _ (fun v13 M14 hh => ?_) h
      obtain ⟨hlM14, h⟩ := hh
      exact h
theorem t_18_58 {d : Nat} {P : Int → qM → Prop} {xn xm : Int} {x0 x1 x2 x3 x4 x5 x6 x7 : Int} {M : qM} {c s : Nat} (hl : q_ml M x0 xn xm) (h : ((x6 ≤ x7 → (q_At q_m18 (q_WP q_Pr d) P 7 [(0, .inr (.inr x0)), (1, .inl x1), (2, .inr (.inr x2)), (3, .inl (w32 (x3 + 1)))] [] M c s)) ∧ (x7 < x6 → q_WP q_Pr d 87 [.inr (.inr 3), .inl x4, .inl x5, .inl x7] M (fun v1 M2 => q_ml M2 x0 xn xm ∧ ((q_kd M2 x2 = 6) ∧ q_WP q_Pr d 59 [.inr (.inr x2), .inl v1] M2 (fun v3 M4 => q_ml M4 x0 xn xm ∧ (q_At q_m18 (q_WP q_Pr d) P 58 [(0, .inr (.inr x0)), (1, .inl x1), (2, .inr (.inr x2)), (3, .inl x3), (4, .inl x4), (5, .inl x5), (6, .inl x6), (7, .inl (w32 (x7 + 1)))] [] M4 c s))))))) : q_At q_m18 (q_WP q_Pr d) P 58 [(0, .inr (.inr x0)), (1, .inl x1), (2, .inr (.inr x2)), (3, .inl x3), (4, .inl x4), (5, .inl x5), (6, .inl x6), (7, .inl x7)] [] M c s := by
  refine s_18_58 ?_
  rw [mk0 hl, mr0 hl, lk3 hl.1]
  refine ⟨?_, ?_⟩
  · replace h := h.1
    intro g
    replace h := h g
    exact h
  · replace h := h.2
    intro g
    replace h := h g
    refine ⟨rfl, ?_⟩
    refine ⟨rfl, ?_⟩
    refine q_WP_mono _ _ _ _ _ _ (fun v1 M2 hh => ?_) h
    obtain ⟨hlM2, h⟩ := hh
    refine ⟨h.1, ?_⟩
    replace h := h.2
    refine q_WP_mono _ _ _ _ _ _ (fun v3 M4 hh => ?_) h
    obtain ⟨hlM4, h⟩ := hh
    exact h
theorem t_19_0 {d : Nat} {P : Int → qM → Prop} {xn xm : Int} {x0 x1 x2 : Int} {M : qM} {c s : Nat} (hl : q_ml M x0 xn xm) (h : (q_At q_m19 (q_WP q_Pr d) P 5 [(0, .inr (.inr x0)), (1, .inl x1), (2, .inr (.inr x2)), (3, .inl (0 : Int)), (4, .inl (0 : Int))] [] M c s)) : q_At q_m19 (q_WP q_Pr d) P 0 [(0, .inr (.inr x0)), (1, .inl x1), (2, .inr (.inr x2))] [] M c s := by
  refine s_19_0 ?_
  exact h
theorem t_19_5 {d : Nat} {P : Int → qM → Prop} {xn xm : Int} {x0 x1 x2 x3 x4 : Int} {M : qM} {c s : Nat} (hl : q_ml M x0 xn xm) (h : ((xn ≤ x4 → ((q_kd M x2 = 6) ∧ ((¬ x3 = (q_nm M x2 1) → (P (0 : Int) M)) ∧ (x3 = (q_nm M x2 1) → (P (1 : Int) M))))) ∧ (x4 < xn → ((x4 ≤ 0 → q_WP q_Pr d 11 [.inr (.inr x0), .inl x1, .inl x4] M (fun v1 M2 => q_ml M2 x0 xn xm ∧ q_WP q_Pr d 12 [.inr (.inr x0), .inl x1, .inl x4] M2 (fun v3 M4 => q_ml M4 x0 xn xm ∧ q_WP q_Pr d 85 [.inr (.inr 3), .inl v1, .inl v3] M4 (fun v5 M6 => q_ml M6 x0 xn xm ∧ (q_At q_m19 (q_WP q_Pr d) P 69 [(0, .inr (.inr x0)), (1, .inl x1), (2, .inr (.inr x2)), (3, .inl x3), (4, .inl x4), (5, .inl v1), (6, .inl v3), (7, .inl v5), (8, .inl (0 : Int))] [] M6 c s))))) ∧ (0 < x4 → ((q_kd M x2 = 6) ∧ q_WP q_Pr d 58 [.inr (.inr x2), .inl x3] M (fun v7 M8 => q_ml M8 x0 xn xm ∧ ((v7 = (32 : Int) → q_WP q_Pr d 11 [.inr (.inr x0), .inl x1, .inl x4] M8 (fun v9 M10 => q_ml M10 x0 xn xm ∧ q_WP q_Pr d 12 [.inr (.inr x0), .inl x1, .inl x4] M10 (fun v11 M12 => q_ml M12 x0 xn xm ∧ q_WP q_Pr d 85 [.inr (.inr 3), .inl v9, .inl v11] M12 (fun v13 M14 => q_ml M14 x0 xn xm ∧ (q_At q_m19 (q_WP q_Pr d) P 69 [(0, .inr (.inr x0)), (1, .inl x1), (2, .inr (.inr x2)), (3, .inl (w32 (x3 + 1))), (4, .inl x4), (5, .inl v9), (6, .inl v11), (7, .inl v13), (8, .inl (0 : Int))] [] M14 c s))))) ∧ (¬ v7 = (32 : Int) → (P (0 : Int) M8)))))))))) : q_At q_m19 (q_WP q_Pr d) P 5 [(0, .inr (.inr x0)), (1, .inl x1), (2, .inr (.inr x2)), (3, .inl x3), (4, .inl x4)] [] M c s := by
  refine s_19_5 ?_
  rw [mk0 hl, mr1 hl, mk1 hl, ml1 hl]
  refine ⟨rfl, ?_⟩
  refine ⟨by decide, ?_⟩
  refine ⟨?_, ?_⟩
  · replace h := h.1
    intro g
    replace h := h g
    refine ⟨h.1, ?_⟩
    replace h := h.2
    refine ⟨?_, ?_⟩
    · replace h := h.1
      intro g
      replace h := h g
      refine ⟨⟨by decide, by decide⟩, ?_⟩
      exact h
    · replace h := h.2
      intro g
      replace h := h g
      refine ⟨⟨by decide, by decide⟩, ?_⟩
      exact h
  · replace h := h.2
    intro g
    replace h := h g
    refine ⟨?_, ?_⟩
    · replace h := h.1
      intro g
      replace h := h g
      refine ⟨rfl, ?_⟩
      refine q_WP_mono _ _ _ _ _ _ (fun v1 M2 hh => ?_) h
      obtain ⟨hlM2, h⟩ := hh
      rw [mk0 hlM2]
      refine ⟨rfl, ?_⟩
      refine q_WP_mono _ _ _ _ _ _ (fun v3 M4 hh => ?_) h
      obtain ⟨hlM4, h⟩ := hh
      rw [mk0 hlM4, mr0 hlM4, lk3 hlM4.1]
      refine ⟨rfl, ?_⟩
      refine ⟨rfl, ?_⟩
      refine q_WP_mono _ _ _ _ _ _ (fun v5 M6 hh => ?_) h
      obtain ⟨hlM6, h⟩ := hh
      exact h
    · replace h := h.2
      intro g
      replace h := h g
      refine ⟨h.1, ?_⟩
      replace h := h.2
      refine q_WP_mono _ _ _ _ _ _ (fun v7 M8 hh => ?_) h
      obtain ⟨hlM8, h⟩ := hh
      rw [mk0 hlM8]
      refine ⟨?_, ?_⟩
      · replace h := h.1
        intro g
        replace h := h g
        refine ⟨rfl, ?_⟩
        refine q_WP_mono _ _ _ _ _ _ (fun v9 M10 hh => ?_) h
        obtain ⟨hlM10, h⟩ := hh
        rw [mk0 hlM10]
        refine ⟨rfl, ?_⟩
        refine q_WP_mono _ _ _ _ _ _ (fun v11 M12 hh => ?_) h
        obtain ⟨hlM12, h⟩ := hh
        rw [mk0 hlM12, mr0 hlM12, lk3 hlM12.1]
        refine ⟨rfl, ?_⟩
        refine ⟨rfl, ?_⟩
        refine q_WP_mono _ _ _ _ _ _ (fun v13 M14 hh => ?_) h
        obtain ⟨hlM14, h⟩ := hh
        exact h
      · replace h := h.2
        intro g
        replace h := h g
        refine ⟨⟨by decide, by decide⟩, ?_⟩
        exact h
theorem t_19_69 {d : Nat} {P : Int → qM → Prop} {xn xm : Int} {x0 x1 x2 x3 x4 x5 x6 x7 x8 : Int} {M : qM} {c s : Nat} (hl : q_ml M x0 xn xm) (h : ((x7 ≤ x8 → (q_At q_m19 (q_WP q_Pr d) P 5 [(0, .inr (.inr x0)), (1, .inl x1), (2, .inr (.inr x2)), (3, .inl (w32 (x3 + x7))), (4, .inl (w32 (x4 + 1)))] [] M c s)) ∧ (x8 < x7 → ((q_kd M x2 = 6) ∧ q_WP q_Pr d 58 [.inr (.inr x2), .inl (w32 (x3 + x8))] M (fun v1 M2 => q_ml M2 x0 xn xm ∧ q_WP q_Pr d 87 [.inr (.inr 3), .inl x5, .inl x6, .inl x8] M2 (fun v3 M4 => q_ml M4 x0 xn xm ∧ ((v1 = v3 → (q_At q_m19 (q_WP q_Pr d) P 69 [(0, .inr (.inr x0)), (1, .inl x1), (2, .inr (.inr x2)), (3, .inl x3), (4, .inl x4), (5, .inl x5), (6, .inl x6), (7, .inl x7), (8, .inl (w32 (x8 + 1)))] [] M4 c s)) ∧ (¬ v1 = v3 → (P (0 : Int) M4))))))))) : q_At q_m19 (q_WP q_Pr d) P 69 [(0, .inr (.inr x0)), (1, .inl x1), (2, .inr (.inr x2)), (3, .inl x3), (4, .inl x4), (5, .inl x5), (6, .inl x6), (7, .inl x7), (8, .inl x8)] [] M c s := by
  refine s_19_69 ?_
  refine ⟨?_, ?_⟩
  · replace h := h.1
    intro g
    replace h := h g
    exact h
  · replace h := h.2
    intro g
    replace h := h g
    refine ⟨h.1, ?_⟩
    replace h := h.2
    refine q_WP_mono _ _ _ _ _ _ (fun v1 M2 hh => ?_) h
    obtain ⟨hlM2, h⟩ := hh
    rw [mk0 hlM2, mr0 hlM2, lk3 hlM2.1]
    refine ⟨rfl, ?_⟩
    refine ⟨rfl, ?_⟩
    refine q_WP_mono _ _ _ _ _ _ (fun v3 M4 hh => ?_) h
    obtain ⟨hlM4, h⟩ := hh
    refine ⟨?_, ?_⟩
    · replace h := h.1
      intro g
      replace h := h g
      exact h
    · replace h := h.2
      intro g
      replace h := h g
      refine ⟨⟨by decide, by decide⟩, ?_⟩
      exact h
theorem t_20_0 {d : Nat} {P : Int → qM → Prop} {xn xm : Int} {x0 x1 : Int} {M : qM} {c s : Nat} (hl : q_ml M x0 xn xm) (h : ((q_kd M x1 = 6) ∧ q_WP q_Pr d 63 [.inr (.inr x1)] M (fun v1 M2 => q_ml M2 x0 xn xm ∧ (q_At q_m20 (q_WP q_Pr d) P 8 [(0, .inr (.inr x0)), (1, .inr (.inr x1)), (2, .inr (.inl v1)), (4, .inl (0 : Int))] [] M2 c s)))) : q_At q_m20 (q_WP q_Pr d) P 0 [(0, .inr (.inr x0)), (1, .inr (.inr x1))] [] M c s := by
  refine s_20_0 ?_
  refine ⟨h.1, ?_⟩
  replace h := h.2
  refine q_WP_mono _ _ _ _ _ _ (fun v1 M2 hh => ?_) h
  obtain ⟨hlM2, h⟩ := hh
  exact h
theorem t_20_8 {d : Nat} {P : Int → qM → Prop} {xn xm : Int} {x0 x1 x2 x4 : Int} {M : qM} {c s : Nat} (hl : q_ml M x0 xn xm) (h : (((q_nm M x0 3) ≤ x4 → (P (-1 : Int) M)) ∧ (x4 < (q_nm M x0 3) → ((0 ≤ x4 ∧ x4 < xm) ∧ ((¬ (q_lc (q_nm M (x0 + 10) x4) x2) = 0 → (q_At q_m20 (q_WP q_Pr d) P 8 [(0, .inr (.inr x0)), (1, .inr (.inr x1)), (2, .inr (.inl x2)), (4, .inl (w32 (x4 + 1)))] [] M c s)) ∧ ((q_lc (q_nm M (x0 + 10) x4) x2) = 0 → q_WP q_Pr d 19 [.inr (.inr x0), .inl x4, .inr (.inr x1)] M (fun v1 M2 => q_ml M2 x0 xn xm ∧ ((v1 = 0 → (q_At q_m20 (q_WP q_Pr d) P 8 [(0, .inr (.inr x0)), (1, .inr (.inr x1)), (2, .inr (.inl x2)), (4, .inl (w32 (x4 + 1)))] [] M2 c s)) ∧ (¬ v1 = 0 → (P x4 M2)))))))))) : q_At q_m20 (q_WP q_Pr d) P 8 [(0, .inr (.inr x0)), (1, .inr (.inr x1)), (2, .inr (.inl x2)), (4, .inl x4)] [] M c s := by
  refine s_20_8 ?_
  rw [mk0 hl, mr10 hl, ml10 hl, mk10 hl]
  refine ⟨rfl, ?_⟩
  refine ⟨?_, ?_⟩
  · replace h := h.1
    intro g
    replace h := h g
    exact h
  · replace h := h.2
    intro g
    replace h := h g
    refine ⟨rfl, ?_⟩
    refine ⟨⟨rfl, h.1⟩, ?_⟩
    replace h := h.2
    refine ⟨?_, ?_⟩
    · replace h := h.1
      intro g
      replace h := h g
      exact h
    · replace h := h.2
      intro g
      replace h := h g
      refine ⟨rfl, ?_⟩
      refine q_WP_mono _ _ _ _ _ _ (fun v1 M2 hh => ?_) h
      obtain ⟨hlM2, h⟩ := hh
      refine ⟨?_, ?_⟩
      · replace h := h.1
        intro g
        replace h := h g
        exact h
      · replace h := h.2
        intro g
        replace h := h g
        exact h
theorem t_21_0 {d : Nat} {P : Int → qM → Prop} {xn xm : Int} {x0 x1 x2 : Int} {M : qM} {c s : Nat} (hl : q_ml M x0 xn xm) (h : (q_At q_m21 (q_WP q_Pr d) P 5 [(0, .inr (.inr x0)), (1, .inl x1), (2, .inl x2), (3, .inl (0 : Int)), (4, .inl (0 : Int))] [] M c s)) : q_At q_m21 (q_WP q_Pr d) P 0 [(0, .inr (.inr x0)), (1, .inl x1), (2, .inl x2)] [] M c s := by
  refine s_21_0 ?_
  exact h
theorem t_21_5 {d : Nat} {P : Int → qM → Prop} {xn xm : Int} {x0 x1 x2 x3 x4 : Int} {M : qM} {c s : Nat} (hl : q_ml M x0 xn xm) (h : (((q_nm M x0 3) ≤ x4 → (P x3 M)) ∧ (x4 < (q_nm M x0 3) → ((0 ≤ x4 ∧ x4 < xm) ∧ ((¬ (q_nm M (x0 + 11) x4) = x1 → (q_At q_m21 (q_WP q_Pr d) P 5 [(0, .inr (.inr x0)), (1, .inl x1), (2, .inl x2), (3, .inl x3), (4, .inl (w32 (x4 + 1)))] [] M c s)) ∧ ((q_nm M (x0 + 11) x4) = x1 → ((x2 = (-1 : Int) → (q_At q_m21 (q_WP q_Pr d) P 5 [(0, .inr (.inr x0)), (1, .inl x1), (2, .inl x2), (3, .inl (w32 (x3 + 1))), (4, .inl (w32 (x4 + 1)))] [] M c s)) ∧ (¬ x2 = (-1 : Int) → ((0 ≤ x4 ∧ x4 < xm) ∧ ((¬ (q_nm M (x0 + 4) x4) = x2 → (q_At q_m21 (q_WP q_Pr d) P 5 [(0, .inr (.inr x0)), (1, .inl x1), (2, .inl x2), (3, .inl x3), (4, .inl (w32 (x4 + 1)))] [] M c s)) ∧ ((q_nm M (x0 + 4) x4) = x2 → (q_At q_m21 (q_WP q_Pr d) P 5 [(0, .inr (.inr x0)), (1, .inl x1), (2, .inl x2), (3, .inl (w32 (x3 + 1))), (4, .inl (w32 (x4 + 1)))] [] M c s)))))))))))) : q_At q_m21 (q_WP q_Pr d) P 5 [(0, .inr (.inr x0)), (1, .inl x1), (2, .inl x2), (3, .inl x3), (4, .inl x4)] [] M c s := by
  refine s_21_5 ?_
  rw [mk0 hl, mr11 hl, ml11 hl, mk11 hl, mr4 hl, ml4 hl, mk4 hl]
  refine ⟨rfl, ?_⟩
  refine ⟨?_, ?_⟩
  · replace h := h.1
    intro g
    replace h := h g
    exact h
  · replace h := h.2
    intro g
    replace h := h g
    refine ⟨rfl, ?_⟩
    refine ⟨⟨rfl, h.1⟩, ?_⟩
    replace h := h.2
    refine ⟨?_, ?_⟩
    · replace h := h.1
      intro g
      replace h := h g
      exact h
    · replace h := h.2
      intro g
      replace h := h g
      refine ⟨?_, ?_⟩
      · replace h := h.1
        intro g
        replace h := h g
        exact h
      · replace h := h.2
        intro g
        replace h := h g
        refine ⟨rfl, ?_⟩
        refine ⟨⟨Or.inl rfl, h.1⟩, ?_⟩
        replace h := h.2
        refine ⟨?_, ?_⟩
        · replace h := h.1
          intro g
          replace h := h g
          exact h
        · replace h := h.2
          intro g
          replace h := h g
          exact h
theorem t_22_0 {d : Nat} {P : Int → qM → Prop} {xn xm : Int} {x0 x1 x2 : Int} {M : qM} {c s : Nat} (hl : q_ml M x0 xn xm) (h : ((¬ x1 = (4 : Int) → (q_At q_m22 (q_WP q_Pr d) P 18 [(0, .inr (.inr x0)), (1, .inl x1), (2, .inr (.inr x2)), (3, .inr (.inr 15)), (4, .inl (1000 : Int)), (5, .inl (0 : Int))] [] M c s)) ∧ (x1 = (4 : Int) → (q_At q_m22 (q_WP q_Pr d) P 18 [(0, .inr (.inr x0)), (1, .inl x1), (2, .inr (.inr x2)), (3, .inr (.inr 15)), (4, .inl (100 : Int)), (5, .inl (0 : Int))] [] M c s)))) : q_At q_m22 (q_WP q_Pr d) P 0 [(0, .inr (.inr x0)), (1, .inl x1), (2, .inr (.inr x2)), (3, .inr (.inr 15))] [] M c s := by
  refine s_22_0 ?_
  refine ⟨?_, ?_⟩
  · replace h := h.1
    intro g
    replace h := h g
    exact h
  · replace h := h.2
    intro g
    replace h := h g
    exact h
theorem t_22_18 {d : Nat} {P : Int → qM → Prop} {xn xm : Int} {x0 x1 x2 x4 x5 : Int} {M : qM} {c s : Nat} (hl : q_ml M x0 xn xm) (h : (((q_nm M x0 3) ≤ x5 → (P (0 : Int) M)) ∧ (x5 < (q_nm M x0 3) → ((x2 = -1 → ((0 ≤ x1 ∧ x1 < 5) ∧ (((0 ≤ (q_rf M (x0 + 12) x1) ∧ q_kd M (q_rf M (x0 + 12) x1) = 14) ∧ 0 ≤ x5 ∧ x5 < q_ln M (q_rf M (x0 + 12) x1)) ∧ (∀ M5 : qM, M5 = q_wn M (q_rf M (x0 + 12) x1) x5 (max (0 : Int) (min x4 x4)) → q_ml M5 x0 xn xm → (q_At q_m22 (q_WP q_Pr (d + 1)) P 18 [(0, .inr (.inr x0)), (1, .inl x1), (2, .inr (.inr x2)), (3, .inr (.inr 15)), (4, .inl x4), (5, .inl (w32 (x5 + 1)))] [] M5 c s))))) ∧ (¬ x2 = -1 → q_WP q_Pr (d + 1) 24 [.inr (.inr x0), .inl x5, .inr (.inr 16)] M (fun v6 M7 => q_ml M7 x0 xn xm ∧ ((0 ≤ x5 ∧ x5 < xm) ∧ ((q_kd M7 x2 = 5) ∧ q_WP q_Pr (d + 1) 56 [.inr (.inr x2), .inl (q_nm M7 (x0 + 4) x5), .inr (.inr 15)] M7 (fun v8 M9 => q_ml M9 x0 xn xm ∧ ((0 ≤ x1 ∧ x1 < 5) ∧ (((0 ≤ (q_rf M9 (x0 + 12) x1) ∧ q_kd M9 (q_rf M9 (x0 + 12) x1) = 14) ∧ 0 ≤ x5 ∧ x5 < q_ln M9 (q_rf M9 (x0 + 12) x1)) ∧ (∀ M14 : qM, M14 = q_wn M9 (q_rf M9 (x0 + 12) x1) x5 (max (0 : Int) (min x4 v8)) → q_ml M14 x0 xn xm → (q_At q_m22 (q_WP q_Pr (d + 1)) P 18 [(0, .inr (.inr x0)), (1, .inl x1), (2, .inr (.inr x2)), (3, .inr (.inr 15)), (4, .inl x4), (5, .inl (w32 (x5 + 1)))] [] M14 c s))))))))))))) : q_At q_m22 (q_WP q_Pr (d + 1)) P 18 [(0, .inr (.inr x0)), (1, .inl x1), (2, .inr (.inr x2)), (3, .inr (.inr 15)), (4, .inl x4), (5, .inl x5)] [] M c s := by
  refine s_22_18 ?_
  rw [mk0 hl, mr14 hl, ml12 hl, mk12 hl, lk15 hl.1, lr15_0 hl.1]
  refine ⟨rfl, ?_⟩
  refine ⟨?_, ?_⟩
  · replace h := h.1
    intro g
    replace h := h g
    exact h
  · replace h := h.2
    intro g
    replace h := h g
    refine ⟨?_, ?_⟩
    · replace h := h.1
      intro g
      replace h := h g
      refine ⟨rfl, ?_⟩
      refine ⟨⟨⟨by decide, by decide⟩, h.1⟩, ?_⟩
      replace h := h.2
      refine p_260 ?_
      refine p_258 ?_
      refine ⟨h.1, ?_⟩
      replace h := h.2
      intro M5
      have hlM5 : q_ml M5 x0 xn xm := q_ml_wn hl
      replace h := h M5 rfl hlM5
      exact h
    · replace h := h.2
      intro g
      replace h := h g
      refine ⟨rfl, ?_⟩
      refine ⟨rfl, ?_⟩
      refine q_WP_mono _ _ _ _ _ _ (fun v6 M7 hh => ?_) h
      obtain ⟨hlM7, h⟩ := hh
      rw [mk0 hlM7, mr4 hlM7, ml4 hlM7, mk4 hlM7]
      refine ⟨rfl, ?_⟩
      refine ⟨⟨Or.inl rfl, h.1⟩, ?_⟩
      replace h := h.2
      refine ⟨h.1, ?_⟩
      replace h := h.2
      refine q_WP_mono _ _ _ _ _ _ (fun v8 M9 hh => ?_) h
      obtain ⟨hlM9, h⟩ := hh
      rw [mk0 hlM9, mr14 hlM9, ml12 hlM9, mk12 hlM9]
      refine ⟨rfl, ?_⟩
      refine ⟨⟨⟨by decide, by decide⟩, h.1⟩, ?_⟩
      replace h := h.2
      refine p_260 ?_
      refine p_258 ?_
      refine ⟨h.1, ?_⟩
      replace h := h.2
      intro M14
      have hlM14 : q_ml M14 x0 xn xm := q_ml_wn hlM9
      replace h := h M14 rfl hlM14
      exact h
theorem t_23_0 {d : Nat} {P : Int → qM → Prop} {xn xm : Int} {x0 x1 : Int} {M : qM} {c s : Nat} (hl : q_ml M x0 xn xm) (h : ((0 ≤ x1 ∧ x1 < 5) ∧ (∀ M1 : qM, M1 = q_wn M (x0 + 3) x1 (0 : Int) → q_ml M1 x0 xn xm → (q_At q_m23 (q_WP q_Pr d) P 9 [(0, .inr (.inr x0)), (1, .inl x1), (2, .inl (0 : Int))] [] M1 c s)))) : q_At q_m23 (q_WP q_Pr d) P 0 [(0, .inr (.inr x0)), (1, .inl x1)] [] M c s := by
  refine s_23_0 ?_
  rw [mk0 hl, mr13 hl, ml3 hl, mk3 hl]
  refine ⟨rfl, ?_⟩
  refine ⟨⟨⟨by have := q_ml_ge hl; omega, rfl⟩, h.1⟩, ?_⟩
  replace h := h.2
  intro M1
  have hlM1 : q_ml M1 x0 xn xm := q_ml_wn hl
  replace h := h M1 rfl hlM1
  exact h
theorem t_23_9 {d : Nat} {P : Int → qM → Prop} {xn xm : Int} {x0 x1 x2 : Int} {M : qM} {c s : Nat} (hl : q_ml M x0 xn xm) (h : (((q_nm M x0 3) ≤ x2 → (P (0 : Int) M)) ∧ (x2 < (q_nm M x0 3) → ((0 ≤ x1 ∧ x1 < 5) ∧ (((0 ≤ (q_rf M (x0 + 18) x1) ∧ q_kd M (q_rf M (x0 + 18) x1) = 14) ∧ 0 ≤ x2 ∧ x2 < q_ln M (q_rf M (x0 + 18) x1)) ∧ (∀ M1 : qM, M1 = q_wn M (q_rf M (x0 + 18) x1) x2 (0 : Int) → q_ml M1 x0 xn xm → ((0 ≤ x1 ∧ x1 < 5) ∧ ((0 ≤ x2 ∧ x2 < xm) ∧ ((q_kd M1 (q_rf M1 (x0 + 18) x1) = 14 ∧ 0 ≤ (q_nm M1 (x0 + 11) x2) ∧ (q_nm M1 (x0 + 11) x2) < q_ln M1 (q_rf M1 (x0 + 18) x1)) ∧ ((0 ≤ x1 ∧ x1 < 5) ∧ ((q_kd M1 (q_rf M1 (x0 + 12) x1) = 14 ∧ 0 ≤ x2 ∧ x2 < q_ln M1 (q_rf M1 (x0 + 12) x1)) ∧ (((0 ≤ (q_rf M1 (x0 + 18) x1) ∧ q_kd M1 (q_rf M1 (x0 + 18) x1) = 14) ∧ 0 ≤ (q_nm M1 (x0 + 11) x2) ∧ (q_nm M1 (x0 + 11) x2) < q_ln M1 (q_rf M1 (x0 + 18) x1)) ∧ (∀ M2 : qM, M2 = q_wn M1 (q_rf M1 (x0 + 18) x1) (q_nm M1 (x0 + 11) x2) (w32 ((q_nm M1 (q_rf M1 (x0 + 18) x1) (q_nm M1 (x0 + 11) x2)) + (q_nm M1 (q_rf M1 (x0 + 12) x1) x2))) → q_ml M2 x0 xn xm → ((0 ≤ x1 ∧ x1 < 5) ∧ ((0 ≤ x1 ∧ x1 < 5) ∧ ((q_kd M2 (q_rf M2 (x0 + 12) x1) = 14 ∧ 0 ≤ x2 ∧ x2 < q_ln M2 (q_rf M2 (x0 + 12) x1)) ∧ ((0 ≤ x1 ∧ x1 < 5) ∧ (∀ M3 : qM, M3 = q_wn M2 (x0 + 3) x1 (w32 ((q_nm M2 (x0 + 3) x1) + (q_nm M2 (q_rf M2 (x0 + 12) x1) x2))) → q_ml M3 x0 xn xm → (q_At q_m23 (q_WP q_Pr d) P 9 [(0, .inr (.inr x0)), (1, .inl x1), (2, .inl (w32 (x2 + 1)))] [] M3 c s))))))))))))))))))) : q_At q_m23 (q_WP q_Pr d) P 9 [(0, .inr (.inr x0)), (1, .inl x1), (2, .inl x2)] [] M c s := by
  refine s_23_9 ?_
  rw [mk0 hl, mr15 hl, ml18 hl, mk18 hl]
  refine ⟨rfl, ?_⟩
  refine ⟨?_, ?_⟩
  · replace h := h.1
    intro g
    replace h := h g
    exact h
  · replace h := h.2
    intro g
    replace h := h g
    refine ⟨rfl, ?_⟩
    refine ⟨⟨⟨by decide, by decide⟩, h.1⟩, ?_⟩
    replace h := h.2
    refine ⟨h.1, ?_⟩
    replace h := h.2
    intro M1
    have hlM1 : q_ml M1 x0 xn xm := q_ml_wn hl
    replace h := h M1 rfl hlM1
    rw [mk0 hlM1, mr15 hlM1, ml18 hlM1, mk18 hlM1, mr11 hlM1, ml11 hlM1, mk11 hlM1, mr14 hlM1, ml12 hlM1, mk12 hlM1]
    refine ⟨rfl, ?_⟩
    refine ⟨⟨⟨by decide, by decide⟩, h.1⟩, ?_⟩
    replace h := h.2
    refine ⟨rfl, ?_⟩
    refine ⟨⟨rfl, h.1⟩, ?_⟩
    replace h := h.2
    refine ⟨h.1, ?_⟩
    replace h := h.2
    refine ⟨rfl, ?_⟩
    refine ⟨⟨⟨by decide, by decide⟩, h.1⟩, ?_⟩
    replace h := h.2
    refine ⟨h.1, ?_⟩
    replace h := h.2
    refine ⟨h.1, ?_⟩
    replace h := h.2
    intro M2
    have hlM2 : q_ml M2 x0 xn xm := q_ml_wn hlM1
    replace h := h M2 rfl hlM2
    rw [mk0 hlM2, mr13 hlM2, ml3 hlM2, mk3 hlM2, mr14 hlM2, ml12 hlM2, mk12 hlM2]
    refine ⟨rfl, ?_⟩
    refine ⟨⟨rfl, h.1⟩, ?_⟩
    replace h := h.2
    refine ⟨rfl, ?_⟩
    refine ⟨⟨⟨by decide, by decide⟩, h.1⟩, ?_⟩
    replace h := h.2
    refine ⟨h.1, ?_⟩
    replace h := h.2
    refine ⟨⟨⟨by have := q_ml_ge hlM2; omega, rfl⟩, h.1⟩, ?_⟩
    replace h := h.2
    intro M3
    have hlM3 : q_ml M3 x0 xn xm := q_ml_wn hlM2
    replace h := h M3 rfl hlM3
    exact h
theorem t_24_0 {d : Nat} {P : Int → qM → Prop} {xn xm : Int} {x0 x1 : Int} {M : qM} {c s : Nat} (hl : q_ml M x0 xn xm) (h : q_WP q_Pr d 262 [.inr (.inr 16), .inl (0 : Int)] M (fun v1 M2 => q_ml M2 x0 xn xm ∧ (∀ M3 : qM, M3 = q_wn M2 16 (2 : Int) xn → q_ml M3 x0 xn xm → ((0 ≤ x1 ∧ x1 < xm) ∧ (∀ M4 : qM, M4 = q_wn M3 16 (6 : Int) (q_nm M3 (x0 + 7) x1) → q_ml M4 x0 xn xm → ((0 ≤ x1 ∧ x1 < xm) ∧ (((q_nm M4 (x0 + 8) x1) = 0 → (∀ M5 : qM, M5 = q_wn M4 16 (7 : Int) (0 : Int) → q_ml M5 x0 xn xm → ((0 ≤ x1 ∧ x1 < xm) ∧ ((¬ (q_nm M5 (x0 + 4) x1) = 0 → ((0 ≤ x1 ∧ x1 < xm) ∧ ((0 ≤ x1 ∧ x1 < xm) ∧ (∀ M6 : qM, M6 = q_wn M5 16 (1 : Int) (q_nm M5 (x0 + 5) x1) → q_ml M6 x0 xn xm → ((0 ≤ (q_nm M5 (x0 + 5) x1) ∧ (q_nm M5 (x0 + 5) x1) < xn) ∧ ((0 ≤ (q_nm M6 (x0 + 1) (q_nm M5 (x0 + 5) x1)) ∧ (q_nm M6 (x0 + 1) (q_nm M5 (x0 + 5) x1)) < 30) ∧ (∀ M7 : qM, M7 = q_wn M6 16 (4 : Int) (q_nm M6 9 (q_nm M6 (x0 + 1) (q_nm M5 (x0 + 5) x1))) → q_ml M7 x0 xn xm → ((¬ (q_nm M5 (x0 + 6) x1) = (-1 : Int) → ((0 ≤ x1 ∧ x1 < xm) ∧ (((4 : Int) < (q_nm M7 (x0 + 4) x1) → (q_At q_m24 (q_WP q_Pr d) P 127 [(0, .inr (.inr x0)), (2, .inr (.inr 16)), (3, .inl (q_nm M5 (x0 + 5) x1)), (5, .inl (q_nm M5 (x0 + 6) x1))] [] M7 c s)) ∧ ((q_nm M7 (x0 + 4) x1) ≤ (4 : Int) → q_WP q_Pr d 256 [.inl (w32 ((q_nm M5 (x0 + 6) x1) - (q_nm M5 (x0 + 5) x1)))] M7 (fun v8 M9 => q_ml M9 x0 xn xm ∧ (∀ M10 : qM, M10 = q_wn M9 16 (0 : Int) v8 → q_ml M10 x0 xn xm → ((0 ≤ (q_nm M5 (x0 + 6) x1) ∧ (q_nm M5 (x0 + 6) x1) < xn) ∧ (q_At q_m24 (q_WP q_Pr d) P 127 [(0, .inr (.inr x0)), (2, .inr (.inr 16)), (3, .inl (q_nm M5 (x0 + 5) x1)), (5, .inl (q_nm M10 (x0 + 1) (q_nm M5 (x0 + 6) x1)))] [] M10 c s)))))))) ∧ ((q_nm M5 (x0 + 6) x1) = (-1 : Int) → (P (0 : Int) M7)))))))))) ∧ ((q_nm M5 (x0 + 4) x1) = 0 → (P (0 : Int) M5)))))) ∧ (¬ (q_nm M4 (x0 + 8) x1) = 0 → (∀ M11 : qM, M11 = q_wn M4 16 (7 : Int) (1 : Int) → q_ml M11 x0 xn xm → ((0 ≤ x1 ∧ x1 < xm) ∧ ((¬ (q_nm M11 (x0 + 4) x1) = 0 → ((0 ≤ x1 ∧ x1 < xm) ∧ ((0 ≤ x1 ∧ x1 < xm) ∧ (∀ M12 : qM, M12 = q_wn M11 16 (1 : Int) (q_nm M11 (x0 + 5) x1) → q_ml M12 x0 xn xm → ((0 ≤ (q_nm M11 (x0 + 5) x1) ∧ (q_nm M11 (x0 + 5) x1) < xn) ∧ ((0 ≤ (q_nm M12 (x0 + 1) (q_nm M11 (x0 + 5) x1)) ∧ (q_nm M12 (x0 + 1) (q_nm M11 (x0 + 5) x1)) < 30) ∧ (∀ M13 : qM, M13 = q_wn M12 16 (4 : Int) (q_nm M12 9 (q_nm M12 (x0 + 1) (q_nm M11 (x0 + 5) x1))) → q_ml M13 x0 xn xm → ((¬ (q_nm M11 (x0 + 6) x1) = (-1 : Int) → ((0 ≤ x1 ∧ x1 < xm) ∧ (((4 : Int) < (q_nm M13 (x0 + 4) x1) → (q_At q_m24 (q_WP q_Pr d) P 127 [(0, .inr (.inr x0)), (2, .inr (.inr 16)), (3, .inl (q_nm M11 (x0 + 5) x1)), (5, .inl (q_nm M11 (x0 + 6) x1))] [] M13 c s)) ∧ ((q_nm M13 (x0 + 4) x1) ≤ (4 : Int) → q_WP q_Pr d 256 [.inl (w32 ((q_nm M11 (x0 + 6) x1) - (q_nm M11 (x0 + 5) x1)))] M13 (fun v14 M15 => q_ml M15 x0 xn xm ∧ (∀ M16 : qM, M16 = q_wn M15 16 (0 : Int) v14 → q_ml M16 x0 xn xm → ((0 ≤ (q_nm M11 (x0 + 6) x1) ∧ (q_nm M11 (x0 + 6) x1) < xn) ∧ (q_At q_m24 (q_WP q_Pr d) P 127 [(0, .inr (.inr x0)), (2, .inr (.inr 16)), (3, .inl (q_nm M11 (x0 + 5) x1)), (5, .inl (q_nm M16 (x0 + 1) (q_nm M11 (x0 + 6) x1)))] [] M16 c s)))))))) ∧ ((q_nm M11 (x0 + 6) x1) = (-1 : Int) → (P (0 : Int) M13)))))))))) ∧ ((q_nm M11 (x0 + 4) x1) = 0 → (P (0 : Int) M11))))))))))))) : q_At q_m24 (q_WP q_Pr d) P 0 [(0, .inr (.inr x0)), (1, .inl x1), (2, .inr (.inr 16))] [] M c s := by
  refine s_24_0 ?_
  refine q_WP_mono _ _ _ _ _ _ (fun v1 M2 hh => ?_) h
  obtain ⟨hlM2, h⟩ := hh
  rw [mk0 hlM2, mr1 hlM2, mk1 hlM2, ll16 hlM2.1, lk16 hlM2.1, ml1 hlM2]
  refine ⟨rfl, ?_⟩
  refine ⟨by decide, ?_⟩
  refine ⟨⟨⟨by decide, rfl⟩, ⟨by decide, by decide⟩⟩, ?_⟩
  intro M3
  have hlM3 : q_ml M3 x0 xn xm := q_ml_wn hlM2
  replace h := h M3 rfl hlM3
  rw [mk0 hlM3, mr7 hlM3, ml7 hlM3, mk7 hlM3, ll16 hlM3.1, lk16 hlM3.1]
  refine ⟨rfl, ?_⟩
  refine ⟨⟨Or.inl rfl, h.1⟩, ?_⟩
  replace h := h.2
  refine ⟨⟨⟨by decide, rfl⟩, ⟨by decide, by decide⟩⟩, ?_⟩
  intro M4
  have hlM4 : q_ml M4 x0 xn xm := q_ml_wn hlM3
  replace h := h M4 rfl hlM4
  rw [mk0 hlM4, mr8 hlM4, ml8 hlM4, mk8 hlM4, ll16 hlM4.1, lk16 hlM4.1]
  refine ⟨rfl, ?_⟩
  refine ⟨⟨Or.inr rfl, h.1⟩, ?_⟩
  replace h := h.2
  refine ⟨?_, ?_⟩
  · replace h := h.1
    intro g
    replace h := h g
    refine ⟨⟨⟨by decide, rfl⟩, ⟨by decide, by decide⟩⟩, ?_⟩
    intro M5
    have hlM5 : q_ml M5 x0 xn xm := q_ml_wn hlM4
    replace h := h M5 rfl hlM5
    rw [mk0 hlM5, mr4 hlM5, ml4 hlM5, mk4 hlM5, mr5 hlM5, ml5 hlM5, mk5 hlM5, mr6 hlM5, ml6 hlM5, mk6 hlM5, ll16 hlM5.1, lk16 hlM5.1]
    refine ⟨rfl, ?_⟩
    refine ⟨⟨Or.inl rfl, h.1⟩, ?_⟩
    replace h := h.2
    refine ⟨?_, ?_⟩
    · replace h := h.1
      intro g
      replace h := h g
      refine ⟨rfl, ?_⟩
      refine ⟨⟨Or.inl rfl, h.1⟩, ?_⟩
      replace h := h.2
      refine ⟨rfl, ?_⟩
      refine ⟨⟨Or.inl rfl, h.1⟩, ?_⟩
      replace h := h.2
      refine ⟨⟨⟨by decide, rfl⟩, ⟨by decide, by decide⟩⟩, ?_⟩
      intro M6
      have hlM6 : q_ml M6 x0 xn xm := q_ml_wn hlM5
      replace h := h M6 rfl hlM6
      rw [mk0 hlM6, mr0 hlM6, lk3 hlM6.1, mr1 hlM6, ml1 hlM6, mk1 hlM6, lr3_5 hlM6.1, ll9 hlM6.1, lk9 hlM6.1, ll16 hlM6.1, lk16 hlM6.1]
      refine ⟨rfl, ?_⟩
      refine ⟨rfl, ?_⟩
      refine ⟨rfl, ?_⟩
      refine ⟨⟨rfl, h.1⟩, ?_⟩
      replace h := h.2
      refine ⟨⟨rfl, h.1⟩, ?_⟩
      replace h := h.2
      refine ⟨⟨⟨by decide, rfl⟩, ⟨by decide, by decide⟩⟩, ?_⟩
      intro M7
      have hlM7 : q_ml M7 x0 xn xm := q_ml_wn hlM6
      replace h := h M7 rfl hlM7
      rw [mk0 hlM7, mr4 hlM7, ml4 hlM7, mk4 hlM7]
      refine ⟨?_, ?_⟩
      · replace h := h.1
        intro g
        replace h := h g
        refine ⟨rfl, ?_⟩
        refine ⟨⟨Or.inl rfl, h.1⟩, ?_⟩
        replace h := h.2
        refine ⟨?_, ?_⟩
        · replace h := h.1
          intro g
          replace h := h g
          exact h
        · replace h := h.2
          intro g
          replace h := h g
          refine q_WP_mono _ _ _ _ _ _ (fun v8 M9 hh => ?_) h
          obtain ⟨hlM9, h⟩ := hh
          rw [ll16 hlM9.1, lk16 hlM9.1]
          refine ⟨⟨⟨by decide, rfl⟩, ⟨by decide, by decide⟩⟩, ?_⟩
          intro M10
          have hlM10 : q_ml M10 x0 xn xm := q_ml_wn hlM9
          replace h := h M10 rfl hlM10
          rw [mk0 hlM10, mr1 hlM10, ml1 hlM10, mk1 hlM10]
          refine ⟨rfl, ?_⟩
          refine ⟨⟨rfl, h.1⟩, ?_⟩
          replace h := h.2
          exact h
      · replace h := h.2
        intro g
        replace h := h g
        exact h
    · replace h := h.2
      intro g
      replace h := h g
      exact h
  · replace h := h.2
    intro g
    replace h := h g
    refine ⟨⟨⟨by decide, rfl⟩, ⟨by decide, by decide⟩⟩, ?_⟩
    intro M11
    have hlM11 : q_ml M11 x0 xn xm := q_ml_wn hlM4
    replace h := h M11 rfl hlM11
    rw [mk0 hlM11, mr4 hlM11, ml4 hlM11, mk4 hlM11, mr5 hlM11, ml5 hlM11, mk5 hlM11, mr6 hlM11, ml6 hlM11, mk6 hlM11, ll16 hlM11.1, lk16 hlM11.1]
    refine ⟨rfl, ?_⟩
    refine ⟨⟨Or.inl rfl, h.1⟩, ?_⟩
    replace h := h.2
    refine ⟨?_, ?_⟩
    · replace h := h.1
      intro g
      replace h := h g
      refine ⟨rfl, ?_⟩
      refine ⟨⟨Or.inl rfl, h.1⟩, ?_⟩
      replace h := h.2
      refine ⟨rfl, ?_⟩
      refine ⟨⟨Or.inl rfl, h.1⟩, ?_⟩
      replace h := h.2
      refine ⟨⟨⟨by decide, rfl⟩, ⟨by decide, by decide⟩⟩, ?_⟩
      intro M12
      have hlM12 : q_ml M12 x0 xn xm := q_ml_wn hlM11
      replace h := h M12 rfl hlM12
      rw [mk0 hlM12, mr0 hlM12, lk3 hlM12.1, mr1 hlM12, ml1 hlM12, mk1 hlM12, lr3_5 hlM12.1, ll9 hlM12.1, lk9 hlM12.1, ll16 hlM12.1, lk16 hlM12.1]
      refine ⟨rfl, ?_⟩
      refine ⟨rfl, ?_⟩
      refine ⟨rfl, ?_⟩
      refine ⟨⟨rfl, h.1⟩, ?_⟩
      replace h := h.2
      refine ⟨⟨rfl, h.1⟩, ?_⟩
      replace h := h.2
      refine ⟨⟨⟨by decide, rfl⟩, ⟨by decide, by decide⟩⟩, ?_⟩
      intro M13
      have hlM13 : q_ml M13 x0 xn xm := q_ml_wn hlM12
      replace h := h M13 rfl hlM13
      rw [mk0 hlM13, mr4 hlM13, ml4 hlM13, mk4 hlM13]
      refine ⟨?_, ?_⟩
      · replace h := h.1
        intro g
        replace h := h g
        refine ⟨rfl, ?_⟩
        refine ⟨⟨Or.inl rfl, h.1⟩, ?_⟩
        replace h := h.2
        refine ⟨?_, ?_⟩
        · replace h := h.1
          intro g
          replace h := h g
          exact h
        · replace h := h.2
          intro g
          replace h := h g
          refine q_WP_mono _ _ _ _ _ _ (fun v14 M15 hh => ?_) h
          obtain ⟨hlM15, h⟩ := hh
          rw [ll16 hlM15.1, lk16 hlM15.1]
          refine ⟨⟨⟨by decide, rfl⟩, ⟨by decide, by decide⟩⟩, ?_⟩
          intro M16
          have hlM16 : q_ml M16 x0 xn xm := q_ml_wn hlM15
          replace h := h M16 rfl hlM16
          rw [mk0 hlM16, mr1 hlM16, ml1 hlM16, mk1 hlM16]
          refine ⟨rfl, ?_⟩
          refine ⟨⟨rfl, h.1⟩, ?_⟩
          replace h := h.2
          exact h
      · replace h := h.2
        intro g
        replace h := h g
        exact h
    · replace h := h.2
      intro g
      replace h := h g
      exact h
theorem t_24_127 {d : Nat} {P : Int → qM → Prop} {xn xm : Int} {x0 x3 x5 : Int} {M : qM} {c s : Nat} (hl : q_ml M x0 xn xm) (h : ((0 ≤ x5 ∧ x5 < 30) ∧ (∀ M1 : qM, M1 = q_wn M 16 (3 : Int) (q_nm M 9 x5) → q_ml M1 x0 xn xm → ((0 ≤ x5 ∧ x5 < 30) ∧ ((0 ≤ x3 ∧ x3 < xn) ∧ ((0 ≤ (q_nm M1 (x0 + 1) x3) ∧ (q_nm M1 (x0 + 1) x3) < 30) ∧ ((¬ (q_nm M1 7 x5) = (q_nm M1 7 (q_nm M1 (x0 + 1) x3)) → (q_At q_m24 (q_WP q_Pr d) P 174 [] [.inl (0 : Int), .inl (5 : Int), .inr (.inr 16)] M1 c s)) ∧ ((q_nm M1 7 x5) = (q_nm M1 7 (q_nm M1 (x0 + 1) x3)) → (q_At q_m24 (q_WP q_Pr d) P 174 [] [.inl (1 : Int), .inl (5 : Int), .inr (.inr 16)] M1 c s))))))))) : q_At q_m24 (q_WP q_Pr d) P 127 [(0, .inr (.inr x0)), (2, .inr (.inr 16)), (3, .inl x3), (5, .inl x5)] [] M c s := by
  refine s_24_127 ?_
  rw [mk0 hl, mr0 hl, lk3 hl.1, lr3_5 hl.1, ll9 hl.1, lk9 hl.1, ll16 hl.1, lk16 hl.1]
  refine ⟨rfl, ?_⟩
  refine ⟨rfl, ?_⟩
  refine ⟨⟨rfl, h.1⟩, ?_⟩
  replace h := h.2
  refine ⟨⟨⟨by decide, rfl⟩, ⟨by decide, by decide⟩⟩, ?_⟩
  intro M1
  have hlM1 : q_ml M1 x0 xn xm := q_ml_wn hl
  replace h := h M1 rfl hlM1
  rw [mk0 hlM1, mr0 hlM1, lk3 hlM1.1, lr3_3 hlM1.1, ll7 hlM1.1, lk7 hlM1.1, mr1 hlM1, ml1 hlM1, mk1 hlM1]
  refine ⟨rfl, ?_⟩
  refine ⟨rfl, ?_⟩
  refine ⟨⟨rfl, h.1⟩, ?_⟩
  replace h := h.2
  refine ⟨rfl, ?_⟩
  refine ⟨rfl, ?_⟩
  refine ⟨rfl, ?_⟩
  refine ⟨⟨rfl, h.1⟩, ?_⟩
  replace h := h.2
  refine ⟨⟨rfl, h.1⟩, ?_⟩
  replace h := h.2
  refine ⟨?_, ?_⟩
  · replace h := h.1
    intro g
    replace h := h g
    exact h
  · replace h := h.2
    intro g
    replace h := h g
    exact h
theorem t_24_174 {d : Nat} {P : Int → qM → Prop} {xn xm x0 : Int} {y0 y1 y2 : Int} {M : qM} {c s : Nat} (hl : q_ml M x0 xn xm) (h : (((0 ≤ y2 ∧ q_kd M y2 = 14) ∧ 0 ≤ y1 ∧ y1 < q_ln M y2) ∧ (∀ M1 : qM, M1 = q_wn M y2 y1 y0 → q_ml M1 x0 xn xm → (P (0 : Int) M1)))) : q_At q_m24 (q_WP q_Pr d) P 174 [] [.inl y0, .inl y1, .inr (.inr y2)] M c s := by
  refine s_24_174 ?_
  refine ⟨h.1, ?_⟩
  replace h := h.2
  intro M1
  have hlM1 : q_ml M1 x0 xn xm := q_ml_wn hl
  replace h := h M1 rfl hlM1
  exact h
theorem t_25_0 {d : Nat} {P : Int → qM → Prop} {xn xm : Int} {x0 x1 x2 : Int} {M : qM} {c s : Nat} (hl : q_ml M x0 xn xm) (h : (q_At q_m25 (q_WP q_Pr d) P 6 [(0, .inr (.inr x0)), (1, .inl x1), (2, .inr (.inl x2)), (4, .inr (.inl (0 : Int))), (6, .inl (0 : Int))] [] M c s)) : q_At q_m25 (q_WP q_Pr d) P 0 [(0, .inr (.inr x0)), (1, .inl x1), (2, .inr (.inl x2))] [] M c s := by
  refine s_25_0 ?_
  exact h
theorem t_25_6 {d : Nat} {P : Int → qM → Prop} {xn xm : Int} {x0 x1 x2 x4 x6 : Int} {M : qM} {c s : Nat} (hl : q_ml M x0 xn xm) (h : (((q_nm M x0 3) ≤ x6 → (P (-1 : Int) M)) ∧ (x6 < (q_nm M x0 3) → ((0 ≤ x1 ∧ x1 < 5) ∧ ((q_kd M (q_rf M (x0 + 12) x1) = 14 ∧ 0 ≤ x6 ∧ x6 < q_ln M (q_rf M (x0 + 12) x1)) ∧ ((0 ≤ (q_lc x2 (w64 (x4 + (q_nm M (q_rf M (x0 + 12) x1) x6)))) → (q_At q_m25 (q_WP q_Pr d) P 6 [(0, .inr (.inr x0)), (1, .inl x1), (2, .inr (.inl x2)), (4, .inr (.inl (w64 (x4 + (q_nm M (q_rf M (x0 + 12) x1) x6))))), (6, .inl (w32 (x6 + 1)))] [] M c s)) ∧ ((q_lc x2 (w64 (x4 + (q_nm M (q_rf M (x0 + 12) x1) x6)))) < 0 → (P x6 M)))))))) : q_At q_m25 (q_WP q_Pr d) P 6 [(0, .inr (.inr x0)), (1, .inl x1), (2, .inr (.inl x2)), (4, .inr (.inl x4)), (6, .inl x6)] [] M c s := by
  refine s_25_6 ?_
  rw [mk0 hl, mr14 hl, ml12 hl, mk12 hl]
  refine ⟨rfl, ?_⟩
  refine ⟨?_, ?_⟩
  · replace h := h.1
    intro g
    replace h := h g
    exact h
  · replace h := h.2
    intro g
    replace h := h g
    refine ⟨rfl, ?_⟩
    refine ⟨⟨⟨by decide, by decide⟩, h.1⟩, ?_⟩
    replace h := h.2
    refine ⟨h.1, ?_⟩
    replace h := h.2
    refine ⟨?_, ?_⟩
    · replace h := h.1
      intro g
      replace h := h g
      exact h
    · replace h := h.2
      intro g
      replace h := h g
      exact h
theorem t_26_0 {d : Nat} {P : Int → qM → Prop} {xn xm : Int} {x0 x1 x2 : Int} {M : qM} {c s : Nat} (hl : q_ml M x0 xn xm) (h : q_WP q_Pr d 20 [.inr (.inr x0), .inr (.inr x1)] M (fun v1 M2 => q_ml M2 x0 xn xm ∧ ((v1 = (-1 : Int) → (P (0 : Int) M2)) ∧ (¬ v1 = (-1 : Int) → ((x2 = (-1 : Int) → (P (1 : Int) M2)) ∧ (¬ x2 = (-1 : Int) → ((0 ≤ x2 ∧ x2 < 5) ∧ ((q_kd M2 (q_rf M2 (x0 + 18) x2) = 14 ∧ 0 ≤ v1 ∧ v1 < q_ln M2 (q_rf M2 (x0 + 18) x2)) ∧ (((q_nm M2 (q_rf M2 (x0 + 18) x2) v1) ≤ 0 → (P (0 : Int) M2)) ∧ (0 < (q_nm M2 (q_rf M2 (x0 + 18) x2) v1) → (P (1 : Int) M2))))))))))) : q_At q_m26 (q_WP q_Pr d) P 0 [(0, .inr (.inr x0)), (1, .inr (.inr x1)), (2, .inl x2)] [] M c s := by
  refine s_26_0 ?_
  rw [mk0 hl]
  refine ⟨rfl, ?_⟩
  refine q_WP_mono _ _ _ _ _ _ (fun v1 M2 hh => ?_) h
  obtain ⟨hlM2, h⟩ := hh
  rw [mk0 hlM2, mr15 hlM2, ml18 hlM2, mk18 hlM2]
  refine ⟨?_, ?_⟩
  · replace h := h.1
    intro g
    replace h := h g
    refine ⟨⟨by decide, by decide⟩, ?_⟩
    exact h
  · replace h := h.2
    intro g
    replace h := h g
    refine ⟨?_, ?_⟩
    · replace h := h.1
      intro g
      replace h := h g
      refine ⟨⟨by decide, by decide⟩, ?_⟩
      exact h
    · replace h := h.2
      intro g
      replace h := h g
      refine ⟨rfl, ?_⟩
      refine ⟨⟨⟨by decide, by decide⟩, h.1⟩, ?_⟩
      replace h := h.2
      refine ⟨h.1, ?_⟩
      replace h := h.2
      refine ⟨?_, ?_⟩
      · replace h := h.1
        intro g
        replace h := h g
        refine ⟨⟨by decide, by decide⟩, ?_⟩
        exact h
      · replace h := h.2
        intro g
        replace h := h g
        refine ⟨⟨by decide, by decide⟩, ?_⟩
        exact h
theorem t_27_0 {d : Nat} {P : Int → qM → Prop} {xn xm : Int} {x0 x1 x2 : Int} {M : qM} {c s : Nat} (hl : q_ml M x0 xn xm) (h : q_WP q_Pr d 20 [.inr (.inr x0), .inr (.inr x1)] M (fun v1 M2 => q_ml M2 x0 xn xm ∧ ((¬ v1 = (-1 : Int) → ((0 ≤ x2 ∧ x2 < 5) ∧ ((q_kd M2 (q_rf M2 (x0 + 18) x2) = 14 ∧ 0 ≤ v1 ∧ v1 < q_ln M2 (q_rf M2 (x0 + 18) x2)) ∧ (P (q_nm M2 (q_rf M2 (x0 + 18) x2) v1) M2)))) ∧ (v1 = (-1 : Int) → (P (0 : Int) M2))))) : q_At q_m27 (q_WP q_Pr d) P 0 [(0, .inr (.inr x0)), (1, .inr (.inr x1)), (2, .inl x2)] [] M c s := by
  refine s_27_0 ?_
  rw [mk0 hl]
  refine ⟨rfl, ?_⟩
  refine q_WP_mono _ _ _ _ _ _ (fun v1 M2 hh => ?_) h
  obtain ⟨hlM2, h⟩ := hh
  rw [mk0 hlM2, mr15 hlM2, ml18 hlM2, mk18 hlM2]
  refine ⟨?_, ?_⟩
  · replace h := h.1
    intro g
    replace h := h g
    refine ⟨rfl, ?_⟩
    refine ⟨⟨⟨by decide, by decide⟩, h.1⟩, ?_⟩
    replace h := h.2
    refine ⟨h.1, ?_⟩
    replace h := h.2
    exact h
  · replace h := h.2
    intro g
    replace h := h g
    exact h
theorem t_28_0 {d : Nat} {P : Int → qM → Prop} {xn xm : Int} {x0 x1 x2 : Int} {M : qM} {c s : Nat} (hl : q_ml M x0 xn xm) (h : (q_At q_m28 (q_WP q_Pr d) P 5 [(0, .inr (.inr x0)), (1, .inl x1), (2, .inl x2), (3, .inl (0 : Int)), (4, .inl (0 : Int))] [] M c s)) : q_At q_m28 (q_WP q_Pr d) P 0 [(0, .inr (.inr x0)), (1, .inl x1), (2, .inl x2)] [] M c s := by
  refine s_28_0 ?_
  exact h
theorem t_28_5 {d : Nat} {P : Int → qM → Prop} {xn xm : Int} {x0 x1 x2 x3 x4 : Int} {M : qM} {c s : Nat} (hl : q_ml M x0 xn xm) (h : (((q_nm M x0 3) ≤ x4 → (P x3 M)) ∧ (x4 < (q_nm M x0 3) → ((0 ≤ x4 ∧ x4 < xm) ∧ ((¬ (q_nm M (x0 + 4) x4) = x1 → (q_At q_m28 (q_WP q_Pr d) P 5 [(0, .inr (.inr x0)), (1, .inl x1), (2, .inl x2), (3, .inl x3), (4, .inl (w32 (x4 + 1)))] [] M c s)) ∧ ((q_nm M (x0 + 4) x4) = x1 → ((0 ≤ x2 ∧ x2 < 5) ∧ ((q_kd M (q_rf M (x0 + 12) x2) = 14 ∧ 0 ≤ x4 ∧ x4 < q_ln M (q_rf M (x0 + 12) x2)) ∧ (q_At q_m28 (q_WP q_Pr d) P 5 [(0, .inr (.inr x0)), (1, .inl x1), (2, .inl x2), (3, .inl (w32 (x3 + (q_nm M (q_rf M (x0 + 12) x2) x4)))), (4, .inl (w32 (x4 + 1)))] [] M c s))))))))) : q_At q_m28 (q_WP q_Pr d) P 5 [(0, .inr (.inr x0)), (1, .inl x1), (2, .inl x2), (3, .inl x3), (4, .inl x4)] [] M c s := by
  refine s_28_5 ?_
  rw [mk0 hl, mr4 hl, ml4 hl, mk4 hl, mr14 hl, ml12 hl, mk12 hl]
  refine ⟨rfl, ?_⟩
  refine ⟨?_, ?_⟩
  · replace h := h.1
    intro g
    replace h := h g
    exact h
  · replace h := h.2
    intro g
    replace h := h g
    refine ⟨rfl, ?_⟩
    refine ⟨⟨Or.inl rfl, h.1⟩, ?_⟩
    replace h := h.2
    refine ⟨?_, ?_⟩
    · replace h := h.1
      intro g
      replace h := h g
      exact h
    · replace h := h.2
      intro g
      replace h := h g
      refine ⟨rfl, ?_⟩
      refine ⟨⟨⟨by decide, by decide⟩, h.1⟩, ?_⟩
      replace h := h.2
      refine ⟨h.1, ?_⟩
      replace h := h.2
      exact h
theorem t_29_0 {d : Nat} {P : Int → qM → Prop} {xn xm : Int} {x0 x1 x2 x3 : Int} {M : qM} {c s : Nat} (hl : q_ml M x0 xn xm) (h : q_WP q_Pr (d + 1) 20 [.inr (.inr x0), .inr (.inr x1)] M (fun v1 M2 => q_ml M2 x0 xn xm ∧ ((v1 = (-1 : Int) → (P (0 : Int) M2)) ∧ (¬ v1 = (-1 : Int) → ((0 ≤ x2 ∧ x2 < 5) ∧ ((¬ (q_nm M2 (x0 + 3) x2) = 0 → ((0 ≤ x3 ∧ x3 < 5) ∧ ((0 ≤ x2 ∧ x2 < 5) ∧ ((q_kd M2 (q_rf M2 (x0 + 18) x2) = 14 ∧ 0 ≤ v1 ∧ v1 < q_ln M2 (q_rf M2 (x0 + 18) x2)) ∧ ((0 ≤ x3 ∧ x3 < 5) ∧ ((q_kd M2 (q_rf M2 (x0 + 18) x3) = 14 ∧ 0 ≤ v1 ∧ v1 < q_ln M2 (q_rf M2 (x0 + 18) x3)) ∧ ((0 ≤ x2 ∧ x2 < 5) ∧ (((q_lc (w64 ((q_nm M2 (q_rf M2 (x0 + 18) x2) v1) * (max (1 : Int) (q_nm M2 (x0 + 3) x3)))) (w64 ((q_nm M2 (q_rf M2 (x0 + 18) x3) v1) * (q_nm M2 (x0 + 3) x2)))) ≤ 0 → (P (0 : Int) M2)) ∧ (0 < (q_lc (w64 ((q_nm M2 (q_rf M2 (x0 + 18) x2) v1) * (max (1 : Int) (q_nm M2 (x0 + 3) x3)))) (w64 ((q_nm M2 (q_rf M2 (x0 + 18) x3) v1) * (q_nm M2 (x0 + 3) x2)))) → (P (1 : Int) M2)))))))))) ∧ ((q_nm M2 (x0 + 3) x2) = 0 → (P (0 : Int) M2)))))))) : q_At q_m29 (q_WP q_Pr (d + 1)) P 0 [(0, .inr (.inr x0)), (1, .inr (.inr x1)), (2, .inl x2), (3, .inl x3)] [] M c s := by
  refine s_29_0 ?_
  rw [mk0 hl]
  refine ⟨rfl, ?_⟩
  refine q_WP_mono _ _ _ _ _ _ (fun v1 M2 hh => ?_) h
  obtain ⟨hlM2, h⟩ := hh
  rw [mk0 hlM2, mr13 hlM2, ml3 hlM2, mk3 hlM2]
  refine ⟨?_, ?_⟩
  · replace h := h.1
    intro g
    replace h := h g
    refine ⟨⟨by decide, by decide⟩, ?_⟩
    exact h
  · replace h := h.2
    intro g
    replace h := h g
    refine ⟨rfl, ?_⟩
    refine ⟨⟨rfl, h.1⟩, ?_⟩
    replace h := h.2
    refine ⟨?_, ?_⟩
    · replace h := h.1
      intro g
      replace h := h g
      refine ⟨rfl, ?_⟩
      refine ⟨⟨rfl, h.1⟩, ?_⟩
      replace h := h.2
      refine p_258 ?_
      rw [mk0 hlM2, mr15 hlM2, ml18 hlM2, mk18 hlM2, mr13 hlM2, ml3 hlM2, mk3 hlM2]
      refine ⟨rfl, ?_⟩
      refine ⟨⟨⟨by decide, by decide⟩, h.1⟩, ?_⟩
      replace h := h.2
      refine ⟨h.1, ?_⟩
      replace h := h.2
      refine ⟨rfl, ?_⟩
      refine ⟨⟨⟨by decide, by decide⟩, h.1⟩, ?_⟩
      replace h := h.2
      refine ⟨h.1, ?_⟩
      replace h := h.2
      refine ⟨rfl, ?_⟩
      refine ⟨⟨rfl, h.1⟩, ?_⟩
      replace h := h.2
      refine ⟨?_, ?_⟩
      · replace h := h.1
        intro g
        replace h := h g
        refine ⟨⟨by decide, by decide⟩, ?_⟩
        exact h
      · replace h := h.2
        intro g
        replace h := h g
        refine ⟨⟨by decide, by decide⟩, ?_⟩
        exact h
    · replace h := h.2
      intro g
      replace h := h g
      refine ⟨⟨by decide, by decide⟩, ?_⟩
      exact h
theorem t_30_0 {d : Nat} {P : Int → qM → Prop} {xn xm : Int} {x0 x1 : Int} {M : qM} {c s : Nat} (hl : q_ml M x0 xn xm) (h : q_WP q_Pr d 20 [.inr (.inr x0), .inr (.inr x1)] M (fun v1 M2 => q_ml M2 x0 xn xm ∧ (q_At q_m30 (q_WP q_Pr d) P 11 [(0, .inr (.inr x0)), (2, .inl v1), (3, .inl (-1 : Int)), (4, .inl (0 : Int))] [] M2 c s))) : q_At q_m30 (q_WP q_Pr d) P 0 [(0, .inr (.inr x0)), (1, .inr (.inr x1))] [] M c s := by
  refine s_30_0 ?_
  rw [mk0 hl]
  refine ⟨rfl, ?_⟩
  refine q_WP_mono _ _ _ _ _ _ (fun v1 M2 hh => ?_) h
  obtain ⟨hlM2, h⟩ := hh
  exact h
theorem t_30_11 {d : Nat} {P : Int → qM → Prop} {xn xm : Int} {x0 x2 x3 x4 : Int} {M : qM} {c s : Nat} (hl : q_ml M x0 xn xm) (h : (((q_nm M x0 3) ≤ x4 → (P x3 M)) ∧ (x4 < (q_nm M x0 3) → ((0 ≤ x4 ∧ x4 < xm) ∧ ((¬ (q_nm M (x0 + 11) x4) = x2 → (q_At q_m30 (q_WP q_Pr (d + 1)) P 11 [(0, .inr (.inr x0)), (2, .inl x2), (3, .inl x3), (4, .inl (w32 (x4 + 1)))] [] M c s)) ∧ ((q_nm M (x0 + 11) x4) = x2 → ((0 ≤ x4 ∧ x4 < xm) ∧ (((q_nm M (x0 + 4) x4) = (1 : Int) → ((0 ≤ x4 ∧ x4 < xm) ∧ ((0 ≤ x4 ∧ x4 < xm) ∧ ((¬ x3 = (-1 : Int) → (q_At q_m30 (q_WP q_Pr (d + 1)) P 11 [(0, .inr (.inr x0)), (2, .inl x2), (3, .inl (min x3 (w32 ((q_nm M (x0 + 6) x4) - (q_nm M (x0 + 5) x4))))), (4, .inl (w32 (x4 + 1)))] [] M c s)) ∧ (x3 = (-1 : Int) → (q_At q_m30 (q_WP q_Pr (d + 1)) P 11 [(0, .inr (.inr x0)), (2, .inl x2), (3, .inl (w32 ((q_nm M (x0 + 6) x4) - (q_nm M (x0 + 5) x4)))), (4, .inl (w32 (x4 + 1)))] [] M c s)))))) ∧ (¬ (q_nm M (x0 + 4) x4) = (1 : Int) → ((0 ≤ x4 ∧ x4 < xm) ∧ ((¬ (q_nm M (x0 + 4) x4) = (3 : Int) → (q_At q_m30 (q_WP q_Pr (d + 1)) P 11 [(0, .inr (.inr x0)), (2, .inl x2), (3, .inl x3), (4, .inl (w32 (x4 + 1)))] [] M c s)) ∧ ((q_nm M (x0 + 4) x4) = (3 : Int) → ((0 ≤ x4 ∧ x4 < xm) ∧ ((0 ≤ x4 ∧ x4 < xm) ∧ ((¬ x3 = (-1 : Int) → (q_At q_m30 (q_WP q_Pr (d + 1)) P 11 [(0, .inr (.inr x0)), (2, .inl x2), (3, .inl (min x3 (w32 ((q_nm M (x0 + 6) x4) - (q_nm M (x0 + 5) x4))))), (4, .inl (w32 (x4 + 1)))] [] M c s)) ∧ (x3 = (-1 : Int) → (q_At q_m30 (q_WP q_Pr (d + 1)) P 11 [(0, .inr (.inr x0)), (2, .inl x2), (3, .inl (w32 ((q_nm M (x0 + 6) x4) - (q_nm M (x0 + 5) x4)))), (4, .inl (w32 (x4 + 1)))] [] M c s))))))))))))))))) : q_At q_m30 (q_WP q_Pr (d + 1)) P 11 [(0, .inr (.inr x0)), (2, .inl x2), (3, .inl x3), (4, .inl x4)] [] M c s := by
  refine s_30_11 ?_
  rw [mk0 hl, mr11 hl, ml11 hl, mk11 hl, mr4 hl, ml4 hl, mk4 hl, mr6 hl, ml6 hl, mk6 hl, mr5 hl, ml5 hl, mk5 hl]
  refine ⟨rfl, ?_⟩
  refine ⟨?_, ?_⟩
  · replace h := h.1
    intro g
    replace h := h g
    exact h
  · replace h := h.2
    intro g
    replace h := h g
    refine ⟨rfl, ?_⟩
    refine ⟨⟨rfl, h.1⟩, ?_⟩
    replace h := h.2
    refine ⟨?_, ?_⟩
    · replace h := h.1
      intro g
      replace h := h g
      exact h
    · replace h := h.2
      intro g
      replace h := h g
      refine ⟨rfl, ?_⟩
      refine ⟨⟨Or.inl rfl, h.1⟩, ?_⟩
      replace h := h.2
      refine ⟨?_, ?_⟩
      · replace h := h.1
        intro g
        replace h := h g
        refine ⟨rfl, ?_⟩
        refine ⟨⟨Or.inl rfl, h.1⟩, ?_⟩
        replace h := h.2
        refine ⟨rfl, ?_⟩
        refine ⟨⟨Or.inl rfl, h.1⟩, ?_⟩
        replace h := h.2
        refine ⟨?_, ?_⟩
        · replace h := h.1
          intro g
          replace h := h g
          refine p_260 ?_
          exact h
        · replace h := h.2
          intro g
          replace h := h g
          exact h
      · replace h := h.2
        intro g
        replace h := h g
        refine ⟨rfl, ?_⟩
        refine ⟨⟨Or.inl rfl, h.1⟩, ?_⟩
        replace h := h.2
        refine ⟨?_, ?_⟩
        · replace h := h.1
          intro g
          replace h := h g
          exact h
        · replace h := h.2
          intro g
          replace h := h g
          refine ⟨rfl, ?_⟩
          refine ⟨⟨Or.inl rfl, h.1⟩, ?_⟩
          replace h := h.2
          refine ⟨rfl, ?_⟩
          refine ⟨⟨Or.inl rfl, h.1⟩, ?_⟩
          replace h := h.2
          refine ⟨?_, ?_⟩
          · replace h := h.1
            intro g
            replace h := h g
            refine p_260 ?_
            exact h
          · replace h := h.2
            intro g
            replace h := h g
            exact h
theorem t_31_0 {d : Nat} {P : Int → qM → Prop} {xn xm : Int} {x0 x1 x2 : Int} {M : qM} {c s : Nat} (hl : q_ml M x0 xn xm) (h : q_WP q_Pr d 20 [.inr (.inr x0), .inr (.inr x1)] M (fun v1 M2 => q_ml M2 x0 xn xm ∧ (q_At q_m31 (q_WP q_Pr d) P 9 [(0, .inr (.inr x0)), (2, .inl x2), (3, .inl v1), (4, .inl (0 : Int))] [] M2 c s))) : q_At q_m31 (q_WP q_Pr d) P 0 [(0, .inr (.inr x0)), (1, .inr (.inr x1)), (2, .inl x2)] [] M c s := by
  refine s_31_0 ?_
  rw [mk0 hl]
  refine ⟨rfl, ?_⟩
  refine q_WP_mono _ _ _ _ _ _ (fun v1 M2 hh => ?_) h
  obtain ⟨hlM2, h⟩ := hh
  exact h
theorem t_31_9 {d : Nat} {P : Int → qM → Prop} {xn xm : Int} {x0 x2 x3 x4 : Int} {M : qM} {c s : Nat} (hl : q_ml M x0 xn xm) (h : (((q_nm M x0 3) ≤ x4 → (P (0 : Int) M)) ∧ (x4 < (q_nm M x0 3) → ((0 ≤ x4 ∧ x4 < xm) ∧ ((¬ (q_nm M (x0 + 11) x4) = x3 → (q_At q_m31 (q_WP q_Pr d) P 9 [(0, .inr (.inr x0)), (2, .inl x2), (3, .inl x3), (4, .inl (w32 (x4 + 1)))] [] M c s)) ∧ ((q_nm M (x0 + 11) x4) = x3 → ((0 ≤ x4 ∧ x4 < xm) ∧ ((¬ (q_nm M (x0 + 4) x4) = (4 : Int) → (q_At q_m31 (q_WP q_Pr d) P 9 [(0, .inr (.inr x0)), (2, .inl x2), (3, .inl x3), (4, .inl (w32 (x4 + 1)))] [] M c s)) ∧ ((q_nm M (x0 + 4) x4) = (4 : Int) → ((0 ≤ x4 ∧ x4 < xm) ∧ ((0 ≤ (q_nm M (x0 + 5) x4) ∧ (q_nm M (x0 + 5) x4) < xn) ∧ ((0 ≤ (q_nm M (x0 + 1) (q_nm M (x0 + 5) x4)) ∧ (q_nm M (x0 + 1) (q_nm M (x0 + 5) x4)) < 30) ∧ ((0 ≤ x4 ∧ x4 < xm) ∧ ((0 ≤ (q_nm M (x0 + 6) x4) ∧ (q_nm M (x0 + 6) x4) < xn) ∧ ((0 ≤ (q_nm M (x0 + 1) (q_nm M (x0 + 6) x4)) ∧ (q_nm M (x0 + 1) (q_nm M (x0 + 6) x4)) < 30) ∧ ((¬ (q_nm M 7 (q_nm M (x0 + 1) (q_nm M (x0 + 5) x4))) = (q_nm M 7 (q_nm M (x0 + 1) (q_nm M (x0 + 6) x4))) → ((¬ (0 : Int) = x2 → (q_At q_m31 (q_WP q_Pr d) P 9 [(0, .inr (.inr x0)), (2, .inl x2), (3, .inl x3), (4, .inl (w32 (x4 + 1)))] [] M c s)) ∧ ((0 : Int) = x2 → (P (1 : Int) M)))) ∧ ((q_nm M 7 (q_nm M (x0 + 1) (q_nm M (x0 + 5) x4))) = (q_nm M 7 (q_nm M (x0 + 1) (q_nm M (x0 + 6) x4))) → ((¬ (1 : Int) = x2 → (q_At q_m31 (q_WP q_Pr d) P 9 [(0, .inr (.inr x0)), (2, .inl x2), (3, .inl x3), (4, .inl (w32 (x4 + 1)))] [] M c s)) ∧ ((1 : Int) = x2 → (P (1 : Int) M)))))))))))))))))))) : q_At q_m31 (q_WP q_Pr d) P 9 [(0, .inr (.inr x0)), (2, .inl x2), (3, .inl x3), (4, .inl x4)] [] M c s := by
  refine s_31_9 ?_
  rw [mk0 hl, mr11 hl, ml11 hl, mk11 hl, mr4 hl, ml4 hl, mk4 hl, mr0 hl, lk3 hl.1, mr5 hl, ml5 hl, mk5 hl, mr1 hl, ml1 hl, mk1 hl, lr3_3 hl.1, ll7 hl.1, lk7 hl.1, mr6 hl, ml6 hl, mk6 hl]
  refine ⟨rfl, ?_⟩
  refine ⟨?_, ?_⟩
  · replace h := h.1
    intro g
    replace h := h g
    refine ⟨⟨by decide, by decide⟩, ?_⟩
    exact h
  · replace h := h.2
    intro g
    replace h := h g
    refine ⟨rfl, ?_⟩
    refine ⟨⟨rfl, h.1⟩, ?_⟩
    replace h := h.2
    refine ⟨?_, ?_⟩
    · replace h := h.1
      intro g
      replace h := h g
      exact h
    · replace h := h.2
      intro g
      replace h := h g
      refine ⟨rfl, ?_⟩
      refine ⟨⟨Or.inl rfl, h.1⟩, ?_⟩
      replace h := h.2
      refine ⟨?_, ?_⟩
      · replace h := h.1
        intro g
        replace h := h g
        exact h
      · replace h := h.2
        intro g
        replace h := h g
        refine ⟨rfl, ?_⟩
        refine ⟨rfl, ?_⟩
        refine ⟨rfl, ?_⟩
        refine ⟨rfl, ?_⟩
        refine ⟨⟨Or.inl rfl, h.1⟩, ?_⟩
        replace h := h.2
        refine ⟨⟨rfl, h.1⟩, ?_⟩
        replace h := h.2
        refine ⟨⟨rfl, h.1⟩, ?_⟩
        replace h := h.2
        refine ⟨rfl, ?_⟩
        refine ⟨rfl, ?_⟩
        refine ⟨rfl, ?_⟩
        refine ⟨rfl, ?_⟩
        refine ⟨⟨Or.inl rfl, h.1⟩, ?_⟩
        replace h := h.2
        refine ⟨⟨rfl, h.1⟩, ?_⟩
        replace h := h.2
        refine ⟨⟨rfl, h.1⟩, ?_⟩
        replace h := h.2
        refine ⟨?_, ?_⟩
        · replace h := h.1
          intro g
          replace h := h g
          refine ⟨?_, ?_⟩
          · replace h := h.1
            intro g
            replace h := h g
            exact h
          · replace h := h.2
            intro g
            replace h := h g
            refine ⟨⟨by decide, by decide⟩, ?_⟩
            exact h
        · replace h := h.2
          intro g
          replace h := h g
          refine ⟨?_, ?_⟩
          · replace h := h.1
            intro g
            replace h := h g
            exact h
          · replace h := h.2
            intro g
            replace h := h g
            refine ⟨⟨by decide, by decide⟩, ?_⟩
            exact h
theorem t_32_0 {d : Nat} {P : Int → qM → Prop} {xn xm : Int} {x0 x1 x2 : Int} {M : qM} {c s : Nat} (hl : q_ml M x0 xn xm) (h : ((0 ≤ x1 ∧ x1 < 5) ∧ ((0 ≤ x2 ∧ x2 < 5) ∧ (((q_lc (q_nm M (x0 + 3) x1) (0 : Int)) ≤ 0 → (P (0 : Int) M)) ∧ (0 < (q_lc (q_nm M (x0 + 3) x1) (0 : Int)) → ((0 < (q_lc (q_nm M (x0 + 3) x2) (0 : Int)) → (q_At q_m32 (q_WP q_Pr d) P 38 [(0, .inr (.inr x0)), (1, .inl x1), (2, .inl x2), (3, .inr (.inl (q_nm M (x0 + 3) x1))), (5, .inr (.inl (q_nm M (x0 + 3) x2))), (7, .inr (.inl (0 : Int))), (9, .inl (0 : Int))] [] M c s)) ∧ ((q_lc (q_nm M (x0 + 3) x2) (0 : Int)) ≤ 0 → (P (0 : Int) M)))))))) : q_At q_m32 (q_WP q_Pr d) P 0 [(0, .inr (.inr x0)), (1, .inl x1), (2, .inl x2)] [] M c s := by
  refine s_32_0 ?_
  rw [mk0 hl, mr13 hl, ml3 hl, mk3 hl]
  refine ⟨rfl, ?_⟩
  refine ⟨⟨rfl, h.1⟩, ?_⟩
  replace h := h.2
  refine ⟨rfl, ?_⟩
  refine ⟨⟨rfl, h.1⟩, ?_⟩
  replace h := h.2
  refine ⟨?_, ?_⟩
  · replace h := h.1
    intro g
    replace h := h g
    exact h
  · replace h := h.2
    intro g
    replace h := h g
    refine ⟨?_, ?_⟩
    · replace h := h.1
      intro g
      replace h := h g
      exact h
    · replace h := h.2
      intro g
      replace h := h g
      exact h
theorem t_32_38 {d : Nat} {P : Int → qM → Prop} {xn xm : Int} {x0 x1 x2 x3 x5 x7 x9 : Int} {M : qM} {c s : Nat} (hl : q_ml M x0 xn xm) (h : (((q_nm M x0 3) ≤ x9 → (((w64 (x3 * x5)) ≠ 0) ∧ (P (w32 (w64 (Int.tdiv (w64 (x7 * (1000000 : Int))) (w64 (x3 * x5))))) M))) ∧ (x9 < (q_nm M x0 3) → ((0 ≤ x9 ∧ x9 < xm) ∧ ((¬ (q_nm M (x0 + 11) x9) = x9 → (q_At q_m32 (q_WP q_Pr d) P 38 [(0, .inr (.inr x0)), (1, .inl x1), (2, .inl x2), (3, .inr (.inl x3)), (5, .inr (.inl x5)), (7, .inr (.inl x7)), (9, .inl (w32 (x9 + 1)))] [] M c s)) ∧ ((q_nm M (x0 + 11) x9) = x9 → ((0 ≤ x1 ∧ x1 < 5) ∧ ((q_kd M (q_rf M (x0 + 18) x1) = 14 ∧ 0 ≤ x9 ∧ x9 < q_ln M (q_rf M (x0 + 18) x1)) ∧ ((0 ≤ x2 ∧ x2 < 5) ∧ ((q_kd M (q_rf M (x0 + 18) x2) = 14 ∧ 0 ≤ x9 ∧ x9 < q_ln M (q_rf M (x0 + 18) x2)) ∧ q_WP q_Pr d 257 [.inr (.inl (w64 ((w64 ((q_nm M (q_rf M (x0 + 18) x1) x9) * x5)) - (w64 ((q_nm M (q_rf M (x0 + 18) x2) x9) * x3)))))] M (fun v1 M2 => q_ml M2 x0 xn xm ∧ (q_At q_m32 (q_WP q_Pr d) P 38 [(0, .inr (.inr x0)), (1, .inl x1), (2, .inl x2), (3, .inr (.inl x3)), (5, .inr (.inl x5)), (7, .inr (.inl (w64 (x7 + v1)))), (9, .inl (w32 (x9 + 1)))] [] M2 c s)))))))))))) : q_At q_m32 (q_WP q_Pr d) P 38 [(0, .inr (.inr x0)), (1, .inl x1), (2, .inl x2), (3, .inr (.inl x3)), (5, .inr (.inl x5)), (7, .inr (.inl x7)), (9, .inl x9)] [] M c s := by
  refine s_32_38 ?_
  rw [mk0 hl, mr11 hl, ml11 hl, mk11 hl, mr15 hl, ml18 hl, mk18 hl]
  refine ⟨rfl, ?_⟩
  refine ⟨?_, ?_⟩
  · replace h := h.1
    intro g
    replace h := h g
    refine ⟨h.1, ?_⟩
    replace h := h.2
    exact h
  · replace h := h.2
    intro g
    replace h := h g
    refine ⟨rfl, ?_⟩
    refine ⟨⟨rfl, h.1⟩, ?_⟩
    replace h := h.2
    refine ⟨?_, ?_⟩
    · replace h := h.1
      intro g
      replace h := h g
      exact h
    · replace h := h.2
      intro g
      replace h := h g
      refine ⟨rfl, ?_⟩
      refine ⟨⟨⟨by decide, by decide⟩, h.1⟩, ?_⟩
      replace h := h.2
      refine ⟨h.1, ?_⟩
      replace h := h.2
      refine ⟨rfl, ?_⟩
      refine ⟨⟨⟨by decide, by decide⟩, h.1⟩, ?_⟩
      replace h := h.2
      refine ⟨h.1, ?_⟩
      replace h := h.2
      refine q_WP_mono _ _ _ _ _ _ (fun v1 M2 hh => ?_) h
      obtain ⟨hlM2, h⟩ := hh
      exact h
end
