section
theorem t_1_0 {d : Nat} {P : Int → qM → Prop} {x1 x2 x3 : Int} {M : qM} {c s : Nat} (hl : q_lay M) (h : (q_At q_m1 (q_WP q_Pr (d + 1)) P 10 [(0, .inr (.inr 15)), (1, .inr (.inr x1)), (3, .inl x3), (4, .inl (0 : Int)), (5, .inl (max (0 : Int) x2))] [] M c s)) : q_At q_m1 (q_WP q_Pr (d + 1)) P 0 [(0, .inr (.inr 15)), (1, .inr (.inr x1)), (2, .inl x2), (3, .inl x3)] [] M c s := by
  refine s_1_0 ?_
  refine p_258 ?_
  exact h
theorem t_1_10 {d : Nat} {P : Int → qM → Prop} {x1 x3 x4 x5 : Int} {M : qM} {c s : Nat} (hl : q_lay M) (h : ((x3 ≤ x5 → (q_At q_m1 (q_WP q_Pr (d + 1)) P 164 [(0, .inr (.inr 15)), (4, .inl x4)] [] M c s)) ∧ (x5 < x3 → ((12 ≤ q_kd M x1) ∧ (((q_ln M x1) ≤ x5 → (q_At q_m1 (q_WP q_Pr (d + 1)) P 164 [(0, .inr (.inr 15)), (4, .inl x4)] [] M c s)) ∧ (x5 < (q_ln M x1) → (((128 : Int) ≤ x4 → (q_At q_m1 (q_WP q_Pr (d + 1)) P 164 [(0, .inr (.inr 15)), (4, .inl x4)] [] M c s)) ∧ (x4 < (128 : Int) → ((q_kd M x1 = 14 ∧ 0 ≤ x5 ∧ x5 < q_ln M x1) ∧ q_WP q_Pr (d + 1) 2 [.inl (q_nm M x1 x5)] M (fun v1 M2 => q_lay M2 ∧ ((v1 = 0 → ((¬ (q_nm M x1 x5) = (12 : Int) → ((x4 < (2 : Int) → (q_At q_m1 (q_WP q_Pr (d + 1)) P 158 [(0, .inr (.inr 15)), (1, .inr (.inr x1)), (3, .inl x3), (4, .inl x4), (5, .inl x5)] [] M2 c s)) ∧ ((2 : Int) ≤ x4 → ((0 ≤ (w32 ((w32 (x4 + (-1))) - (1 : Int))) ∧ (w32 ((w32 (x4 + (-1))) - (1 : Int))) < 128) ∧ ((0 ≤ (w32 (x4 + (-1))) ∧ (w32 (x4 + (-1))) < 128) ∧ q_WP q_Pr (d + 1) 4 [.inl (q_nm M x1 x5), .inr (.inl (q_nm M2 17 (w32 ((w32 (x4 + (-1))) - (1 : Int))))), .inr (.inl (q_nm M2 17 (w32 (x4 + (-1)))))] M2 (fun v3 M4 => q_lay M4 ∧ ((0 ≤ (w32 ((w32 (x4 + (-1))) - (1 : Int))) ∧ (w32 ((w32 (x4 + (-1))) - (1 : Int))) < 128) ∧ (∀ M9 : qM, M9 = q_wn M4 17 (w32 ((w32 (x4 + (-1))) - (1 : Int))) (w32 (max (-1000000 : Int) (min (1000000 : Int) v3))) → q_lay M9 → (q_At q_m1 (q_WP q_Pr (d + 1)) P 158 [(0, .inr (.inr 15)), (1, .inr (.inr x1)), (3, .inl x3), (4, .inl (w32 (x4 + (-1)))), (5, .inl x5)] [] M9 c s))))))))) ∧ ((q_nm M x1 x5) = (12 : Int) → ((x4 < (1 : Int) → ((x4 < (2 : Int) → (q_At q_m1 (q_WP q_Pr (d + 1)) P 158 [(0, .inr (.inr 15)), (1, .inr (.inr x1)), (3, .inl x3), (4, .inl x4), (5, .inl x5)] [] M2 c s)) ∧ ((2 : Int) ≤ x4 → ((0 ≤ (w32 ((w32 (x4 + (-1))) - (1 : Int))) ∧ (w32 ((w32 (x4 + (-1))) - (1 : Int))) < 128) ∧ ((0 ≤ (w32 (x4 + (-1))) ∧ (w32 (x4 + (-1))) < 128) ∧ q_WP q_Pr (d + 1) 4 [.inl (q_nm M x1 x5), .inr (.inl (q_nm M2 17 (w32 ((w32 (x4 + (-1))) - (1 : Int))))), .inr (.inl (q_nm M2 17 (w32 (x4 + (-1)))))] M2 (fun v10 M11 => q_lay M11 ∧ ((0 ≤ (w32 ((w32 (x4 + (-1))) - (1 : Int))) ∧ (w32 ((w32 (x4 + (-1))) - (1 : Int))) < 128) ∧ (∀ M16 : qM, M16 = q_wn M11 17 (w32 ((w32 (x4 + (-1))) - (1 : Int))) (w32 (max (-1000000 : Int) (min (1000000 : Int) v10))) → q_lay M16 → (q_At q_m1 (q_WP q_Pr (d + 1)) P 158 [(0, .inr (.inr 15)), (1, .inr (.inr x1)), (3, .inl x3), (4, .inl (w32 (x4 + (-1)))), (5, .inl x5)] [] M16 c s))))))))) ∧ ((1 : Int) ≤ x4 → ((0 ≤ (w32 (x4 - (1 : Int))) ∧ (w32 (x4 - (1 : Int))) < 128) ∧ ((0 ≤ (w32 (x4 - (1 : Int))) ∧ (w32 (x4 - (1 : Int))) < 128) ∧ (∀ M17 : qM, M17 = q_wn M2 17 (w32 (x4 - (1 : Int))) (w32 ((1 : Int) - (q_nm M2 17 (w32 (x4 - (1 : Int)))))) → q_lay M17 → (q_At q_m1 (q_WP q_Pr (d + 1)) P 158 [(0, .inr (.inr 15)), (1, .inr (.inr x1)), (3, .inl x3), (4, .inl x4), (5, .inl x5)] [] M17 c s))))))))) ∧ (¬ v1 = 0 → q_WP q_Pr (d + 1) 3 [.inr (.inr 15), .inl (q_nm M x1 x5)] M2 (fun v18 M19 => q_lay M19 ∧ ((0 ≤ x4 ∧ x4 < 128) ∧ (∀ M20 : qM, M20 = q_wn M19 17 x4 v18 → q_lay M20 → (q_At q_m1 (q_WP q_Pr (d + 1)) P 158 [(0, .inr (.inr 15)), (1, .inr (.inr x1)), (3, .inl x3), (4, .inl (w32 (x4 + 1))), (5, .inl x5)] [] M20 c s)))))))))))))))) : q_At q_m1 (q_WP q_Pr (d + 1)) P 10 [(0, .inr (.inr 15)), (1, .inr (.inr x1)), (3, .inl x3), (4, .inl x4), (5, .inl x5)] [] M c s := by
  refine s_1_10 ?_
  refine ⟨?_, ?_⟩
  · replace h := h.1
    intro g
    replace h := h g
    exact h
  · replace h := h.2
    intro g
    replace h := h g
    refine ⟨h.1, ?_⟩
    replace h := h.2
    refine ⟨?_, ?_⟩
    · replace h := h.1
      intro g
      replace h := h g
      exact h
    · replace h := h.2
      intro g
      replace h := h g
      refine ⟨?_, ?_⟩
      · replace h := h.1
        intro g
        replace h := h g
        exact h
      · replace h := h.2
        intro g
        replace h := h g
        refine ⟨h.1, ?_⟩
        replace h := h.2
        refine q_WP_mono _ _ _ _ _ _ (fun v1 M2 hh => ?_) h
        obtain ⟨hlM2, h⟩ := hh
        rw [lk15 hlM2, lr15_1 hlM2, ll17 hlM2, lk17 hlM2]
        refine ⟨?_, ?_⟩
        · replace h := h.1
          intro g
          replace h := h g
          refine ⟨?_, ?_⟩
          · replace h := h.1
            intro g
            replace h := h g
            refine ⟨?_, ?_⟩
            · replace h := h.1
              intro g
              replace h := h g
              exact h
            · replace h := h.2
              intro g
              replace h := h g
              refine ⟨rfl, ?_⟩
              refine ⟨⟨rfl, h.1⟩, ?_⟩
              replace h := h.2
              refine ⟨rfl, ?_⟩
              refine ⟨⟨rfl, h.1⟩, ?_⟩
              replace h := h.2
              refine q_WP_mono _ _ _ _ _ _ (fun v3 M4 hh => ?_) h
              obtain ⟨hlM4, h⟩ := hh
              rw [lk15 hlM4, lr15_1 hlM4]
              refine ⟨rfl, ?_⟩
              refine p_261 ?_
              refine p_259 ?_
              rw [ll17 hlM4, lk17 hlM4]
              refine ⟨⟨⟨by decide, rfl⟩, h.1⟩, ?_⟩
              replace h := h.2
              intro M9
              have hlM9 : q_lay M9 := q_lay_wn hlM4
              replace h := h M9 rfl hlM9
              exact h
          · replace h := h.2
            intro g
            replace h := h g
            refine ⟨?_, ?_⟩
            · replace h := h.1
              intro g
              replace h := h g
              refine ⟨?_, ?_⟩
              · replace h := h.1
                intro g
                replace h := h g
                exact h
              · replace h := h.2
                intro g
                replace h := h g
                refine ⟨rfl, ?_⟩
                refine ⟨⟨rfl, h.1⟩, ?_⟩
                replace h := h.2
                refine ⟨rfl, ?_⟩
                refine ⟨⟨rfl, h.1⟩, ?_⟩
                replace h := h.2
                refine q_WP_mono _ _ _ _ _ _ (fun v10 M11 hh => ?_) h
                obtain ⟨hlM11, h⟩ := hh
                rw [lk15 hlM11, lr15_1 hlM11]
                refine ⟨rfl, ?_⟩
                refine p_261 ?_
                refine p_259 ?_
                rw [ll17 hlM11, lk17 hlM11]
                refine ⟨⟨⟨by decide, rfl⟩, h.1⟩, ?_⟩
                replace h := h.2
                intro M16
                have hlM16 : q_lay M16 := q_lay_wn hlM11
                replace h := h M16 rfl hlM16
                exact h
            · replace h := h.2
              intro g
              replace h := h g
              refine ⟨rfl, ?_⟩
              refine ⟨rfl, ?_⟩
              refine ⟨⟨rfl, h.1⟩, ?_⟩
              replace h := h.2
              refine ⟨⟨⟨by decide, rfl⟩, h.1⟩, ?_⟩
              replace h := h.2
              intro M17
              have hlM17 : q_lay M17 := q_lay_wn hlM2
              replace h := h M17 rfl hlM17
              exact h
        · replace h := h.2
          intro g
          replace h := h g
          refine ⟨rfl, ?_⟩
          refine ⟨rfl, ?_⟩
          refine q_WP_mono _ _ _ _ _ _ (fun v18 M19 hh => ?_) h
          obtain ⟨hlM19, h⟩ := hh
          rw [ll17 hlM19, lk17 hlM19]
          refine ⟨⟨⟨by decide, rfl⟩, h.1⟩, ?_⟩
          replace h := h.2
          intro M20
          have hlM20 : q_lay M20 := q_lay_wn hlM19
          replace h := h M20 rfl hlM20
          exact h
theorem t_1_158 {d : Nat} {P : Int → qM → Prop} {x1 x3 x4 x5 : Int} {M : qM} {c s : Nat} (hl : q_lay M) (h : (q_At q_m1 (q_WP q_Pr d) P 10 [(0, .inr (.inr 15)), (1, .inr (.inr x1)), (3, .inl x3), (4, .inl x4), (5, .inl (w32 (x5 + 1)))] [] M c s)) : q_At q_m1 (q_WP q_Pr d) P 158 [(0, .inr (.inr 15)), (1, .inr (.inr x1)), (3, .inl x3), (4, .inl x4), (5, .inl x5)] [] M c s := by
  refine s_1_158 ?_
  exact h
theorem t_1_164 {d : Nat} {P : Int → qM → Prop} {x4 : Int} {M : qM} {c s : Nat} (hl : q_lay M) (h : ((¬ x4 = 0 → ((0 ≤ (w32 (x4 - (1 : Int))) ∧ (w32 (x4 - (1 : Int))) < 128) ∧ (q_At q_m1 (q_WP q_Pr d) P 182 [] [.inl (q_nm M 17 (w32 (x4 - (1 : Int))))] M c s))) ∧ (x4 = 0 → (q_At q_m1 (q_WP q_Pr d) P 182 [] [.inl (0 : Int)] M c s)))) : q_At q_m1 (q_WP q_Pr d) P 164 [(0, .inr (.inr 15)), (4, .inl x4)] [] M c s := by
  refine s_1_164 ?_
  rw [lk15 hl, lr15_1 hl, ll17 hl, lk17 hl]
  refine ⟨?_, ?_⟩
  · replace h := h.1
    intro g
    replace h := h g
    refine ⟨rfl, ?_⟩
    refine ⟨⟨rfl, h.1⟩, ?_⟩
    replace h := h.2
    exact h
  · replace h := h.2
    intro g
    replace h := h g
    exact h
theorem t_1_182 {d : Nat} {P : Int → qM → Prop} {y0 : Int} {M : qM} {c s : Nat} (hl : q_lay M) (h : (P y0 M)) : q_At q_m1 (q_WP q_Pr d) P 182 [] [.inl y0] M c s := by
  refine s_1_182 ?_
  exact h
theorem t_2_0 {d : Nat} {P : Int → qM → Prop} {x0 : Int} {M : qM} {c s : Nat} (hl : q_lay M) (h : (((1000 : Int) ≤ x0 → (P (1 : Int) M)) ∧ (x0 < (1000 : Int) → ((x0 < (13 : Int) → (P (0 : Int) M)) ∧ ((13 : Int) ≤ x0 → (((21 : Int) < x0 → (P (0 : Int) M)) ∧ (x0 ≤ (21 : Int) → (P (1 : Int) M)))))))) : q_At q_m2 (q_WP q_Pr d) P 0 [(0, .inl x0)] [] M c s := by
  refine s_2_0 ?_
  refine ⟨?_, ?_⟩
  · replace h := h.1
    intro g
    replace h := h g
    refine ⟨⟨by decide, by decide⟩, ?_⟩
    exact h
  · replace h := h.2
    intro g
    replace h := h g
    refine ⟨?_, ?_⟩
    · replace h := h.1
      intro g
      replace h := h g
      refine ⟨⟨by decide, by decide⟩, ?_⟩
      exact h
    · replace h := h.2
      intro g
      replace h := h g
      refine ⟨?_, ?_⟩
      · replace h := h.1
        intro g
        replace h := h g
        refine ⟨⟨by decide, by decide⟩, ?_⟩
        exact h
      · replace h := h.2
        intro g
        replace h := h g
        refine ⟨⟨by decide, by decide⟩, ?_⟩
        exact h
theorem t_3_0 {d : Nat} {P : Int → qM → Prop} {x1 : Int} {M : qM} {c s : Nat} (hl : q_lay M) (h : ((x1 < (1000 : Int) → ((x1 < (15 : Int) → ((¬ x1 = (14 : Int) → (P (1 : Int) M)) ∧ (x1 = (14 : Int) → (P (q_nm M 16 (7 : Int)) M)))) ∧ ((15 : Int) ≤ x1 → (((21 : Int) < x1 → ((¬ x1 = (14 : Int) → (P (1 : Int) M)) ∧ (x1 = (14 : Int) → (P (q_nm M 16 (7 : Int)) M)))) ∧ (x1 ≤ (21 : Int) → ((0 ≤ (w32 (x1 - (15 : Int))) ∧ (w32 (x1 - (15 : Int))) < 8) ∧ (P (q_nm M 16 (w32 (x1 - (15 : Int)))) M))))))) ∧ ((1000 : Int) ≤ x1 → (P (w32 (x1 - (1000 : Int))) M)))) : q_At q_m3 (q_WP q_Pr d) P 0 [(0, .inr (.inr 15)), (1, .inl x1)] [] M c s := by
  refine s_3_0 ?_
  rw [lk15 hl, lr15_0 hl, ll16 hl, lk16 hl]
  refine ⟨?_, ?_⟩
  · replace h := h.1
    intro g
    replace h := h g
    refine ⟨?_, ?_⟩
    · replace h := h.1
      intro g
      replace h := h g
      refine ⟨?_, ?_⟩
      · replace h := h.1
        intro g
        replace h := h g
        exact h
      · replace h := h.2
        intro g
        replace h := h g
        refine ⟨rfl, ?_⟩
        refine ⟨⟨rfl, ⟨by decide, by decide⟩⟩, ?_⟩
        exact h
    · replace h := h.2
      intro g
      replace h := h g
      refine ⟨?_, ?_⟩
      · replace h := h.1
        intro g
        replace h := h g
        refine ⟨?_, ?_⟩
        · replace h := h.1
          intro g
          replace h := h g
          exact h
        · replace h := h.2
          intro g
          replace h := h g
          refine ⟨rfl, ?_⟩
          refine ⟨⟨rfl, ⟨by decide, by decide⟩⟩, ?_⟩
          exact h
      · replace h := h.2
        intro g
        replace h := h g
        refine ⟨rfl, ?_⟩
        refine ⟨⟨rfl, h.1⟩, ?_⟩
        replace h := h.2
        exact h
  · replace h := h.2
    intro g
    replace h := h g
    exact h
theorem t_4_0 {d : Nat} {P : Int → qM → Prop} {x0 x1 x3 : Int} {M : qM} {c s : Nat} (hl : q_lay M) (h : ((x0 = 11 → (P (min x1 x3) M)) ∧ (x0 ≠ 11 → ((x0 = 22 → (P (min x1 x3) M)) ∧ (x0 ≠ 22 → ((x0 = 42 → (P (w64 (x1 * x3)) M)) ∧ (x0 ≠ 42 → ((x0 = 43 → (P (w64 (x1 + x3)) M)) ∧ (x0 ≠ 43 → ((x0 = 45 → (P (w64 (x1 - x3)) M)) ∧ (x0 ≠ 45 → ((x0 = 47 → ((¬ (q_lc x3 (0 : Int)) = 0 → q_WP q_Pr (d + 1) 255 [.inr (.inl x1), .inr (.inl x3)] M (fun v3 M4 => q_lay M4 ∧ (P v3 M4))) ∧ ((q_lc x3 (0 : Int)) = 0 → (P (0 : Int) M)))) ∧ (x0 ≠ 47 → ((x0 = 60 → ((0 ≤ (q_lc x1 x3) → (P (0 : Int) M)) ∧ ((q_lc x1 x3) < 0 → (P (1 : Int) M)))) ∧ (x0 ≠ 60 → ((x0 = 61 → ((¬ (q_lc x1 x3) = 0 → (P (0 : Int) M)) ∧ ((q_lc x1 x3) = 0 → (P (1 : Int) M)))) ∧ (x0 ≠ 61 → ((x0 = 62 → (((q_lc x1 x3) ≤ 0 → (P (0 : Int) M)) ∧ (0 < (q_lc x1 x3) → (P (1 : Int) M)))) ∧ (x0 ≠ 62 → (P (max x1 x3) M)))))))))))))))))))) : q_At q_m4 (q_WP q_Pr (d + 1)) P 0 [(0, .inl x0), (1, .inr (.inl x1)), (3, .inr (.inl x3))] [] M c s := by
  refine s_4_0 ?_
  refine ⟨?_, ?_⟩
  · replace h := h.1
    intro g
    replace h := h g
    refine p_261 ?_
    exact h
  · replace h := h.2
    intro g
    replace h := h g
    refine ⟨?_, ?_⟩
    · replace h := h.1
      intro g
      replace h := h g
      refine p_261 ?_
      exact h
    · replace h := h.2
      intro g
      replace h := h g
      refine ⟨?_, ?_⟩
      · replace h := h.1
        intro g
        replace h := h g
        exact h
      · replace h := h.2
        intro g
        replace h := h g
        refine ⟨?_, ?_⟩
        · replace h := h.1
          intro g
          replace h := h g
          exact h
        · replace h := h.2
          intro g
          replace h := h g
          refine ⟨?_, ?_⟩
          · replace h := h.1
            intro g
            replace h := h g
            exact h
          · replace h := h.2
            intro g
            replace h := h g
            refine ⟨?_, ?_⟩
            · replace h := h.1
              intro g
              replace h := h g
              refine ⟨?_, ?_⟩
              · replace h := h.1
                intro g
                replace h := h g
                refine q_WP_mono _ _ _ _ _ _ (fun v3 M4 hh => ?_) h
                obtain ⟨hlM4, h⟩ := hh
                exact h
              · replace h := h.2
                intro g
                replace h := h g
                exact h
            · replace h := h.2
              intro g
              replace h := h g
              refine ⟨?_, ?_⟩
              · replace h := h.1
                intro g
                replace h := h g
                refine ⟨?_, ?_⟩
                · replace h := h.1
                  intro g
                  replace h := h g
                  exact h
                · replace h := h.2
                  intro g
                  replace h := h g
                  exact h
              · replace h := h.2
                intro g
                replace h := h g
                refine ⟨?_, ?_⟩
                · replace h := h.1
                  intro g
                  replace h := h g
                  refine ⟨?_, ?_⟩
                  · replace h := h.1
                    intro g
                    replace h := h g
                    exact h
                  · replace h := h.2
                    intro g
                    replace h := h g
                    exact h
                · replace h := h.2
                  intro g
                  replace h := h g
                  refine ⟨?_, ?_⟩
                  · replace h := h.1
                    intro g
                    replace h := h g
                    refine ⟨?_, ?_⟩
                    · replace h := h.1
                      intro g
                      replace h := h g
                      exact h
                    · replace h := h.2
                      intro g
                      replace h := h g
                      exact h
                  · replace h := h.2
                    intro g
                    replace h := h g
                    refine p_259 ?_
                    exact h
theorem t_34_0 {d : Nat} {P : Int → qM → Prop} {x1 x2 : Int} {M : qM} {c s : Nat} (hl : q_lay M) (h : (((20 : Int) ≤ (q_nm M 21 2) → (P (0 : Int) M)) ∧ ((q_nm M 21 2) < (20 : Int) → ((0 ≤ (q_nm M 21 2) ∧ (q_nm M 21 2) < 20) ∧ (∀ M1 : qM, M1 = q_wn M 22 (q_nm M 21 2) x1 → q_lay M1 → ((0 ≤ (q_nm M1 21 2) ∧ (q_nm M1 21 2) < 20) ∧ ((q_kd M1 (q_rf M1 23 (q_nm M1 21 2)) = 6) ∧ q_WP q_Pr d 60 [.inr (.inr (q_rf M1 23 (q_nm M1 21 2))), .inr (.inr x2)] M1 (fun v2 M3 => q_lay M3 ∧ (∀ M4 : qM, M4 = q_wn M3 21 2 (w32 ((q_nm M3 21 2) + (1 : Int))) → q_lay M4 → (P (0 : Int) M4)))))))))) : q_At q_m34 (q_WP q_Pr d) P 0 [(0, .inr (.inr 21)), (1, .inl x1), (2, .inr (.inr x2))] [] M c s := by
  refine s_34_0 ?_
  rw [lk21 hl, lr21_0 hl, ll22 hl, lk22 hl]
  refine ⟨rfl, ?_⟩
  refine ⟨?_, ?_⟩
  · replace h := h.1
    intro g
    replace h := h g
    exact h
  · replace h := h.2
    intro g
    replace h := h g
    refine ⟨rfl, ?_⟩
    refine ⟨rfl, ?_⟩
    refine ⟨⟨⟨by decide, rfl⟩, h.1⟩, ?_⟩
    replace h := h.2
    intro M1
    have hlM1 : q_lay M1 := q_lay_wn hl
    replace h := h M1 rfl hlM1
    rw [lk21 hlM1, lr21_1 hlM1, ll23 hlM1, lk23 hlM1]
    refine ⟨rfl, ?_⟩
    refine ⟨rfl, ?_⟩
    refine ⟨⟨⟨by decide, by decide⟩, h.1⟩, ?_⟩
    replace h := h.2
    refine ⟨h.1, ?_⟩
    replace h := h.2
    refine q_WP_mono _ _ _ _ _ _ (fun v2 M3 hh => ?_) h
    obtain ⟨hlM3, h⟩ := hh
    rw [lk21 hlM3]
    refine ⟨rfl, ?_⟩
    refine ⟨rfl, ?_⟩
    intro M4
    have hlM4 : q_lay M4 := q_lay_wn hlM3
    replace h := h M4 rfl hlM4
    exact h
theorem t_35_0 {d : Nat} {P : Int → qM → Prop} {M : qM} {c s : Nat} (hl : q_lay M) (h : ((q_nm M 1 1 ≤ 2100) ∧ (∀ M7 : qM, M7 = q_wn M 21 2 (max (0 : Int) (min (20 : Int) (q_B M (0 : Int)))) → q_lay M7 → (q_At q_m35 (q_WP q_Pr (d + 1)) P 22 [(0, .inr (.inr 21)), (1, .inr (.inr 1)), (2, .inl (1 : Int)), (3, .inl (0 : Int))] [] M7 c s)))) : q_At q_m35 (q_WP q_Pr (d + 1)) P 0 [(0, .inr (.inr 21)), (1, .inr (.inr 1))] [] M c s := by
  refine s_35_0 ?_
  rw [lk1 hl]
  refine ⟨rfl, ?_⟩
  refine p_66 hl h.1 ?_
  replace h := h.2
  refine p_260 ?_
  refine p_258 ?_
  rw [lk21 hl]
  refine ⟨rfl, ?_⟩
  intro M7
  have hlM7 : q_lay M7 := q_lay_wn hl
  replace h := h M7 rfl hlM7
  exact h
theorem t_35_22 {d : Nat} {P : Int → qM → Prop} {x2 x3 : Int} {M : qM} {c s : Nat} (hl : q_lay M) (h : (((q_nm M 21 2) ≤ x3 → (P (0 : Int) M)) ∧ (x3 < (q_nm M 21 2) → ((q_nm M 1 1 ≤ 2100) ∧ ((0 ≤ x3 ∧ x3 < 20) ∧ (∀ M3 : qM, M3 = q_wn M 22 x3 (q_B M x2) → q_lay M3 → ((q_nm M3 1 1 ≤ 2100) ∧ ((0 ≤ x3 ∧ x3 < 20) ∧ ((q_kd M3 (q_rf M3 23 x3) = 6) ∧ q_WP q_Pr (d + 1) 62 [.inr (.inr (q_rf M3 23 x3)), .inr (.inr 1), .inl (w32 (x2 + (2 : Int))), .inl (q_B M3 (w32 (x2 + (1 : Int))))] M3 (fun v6 M7 => q_lay M7 ∧ (q_At q_m35 (q_WP q_Pr (d + 1)) P 22 [(0, .inr (.inr 21)), (1, .inr (.inr 1)), (2, .inl (w32 (x2 + (w32 ((2 : Int) + (q_B M3 (w32 (x2 + (1 : Int))))))))), (3, .inl (w32 (x3 + 1)))] [] M7 c s))))))))))) : q_At q_m35 (q_WP q_Pr (d + 1)) P 22 [(0, .inr (.inr 21)), (1, .inr (.inr 1)), (2, .inl x2), (3, .inl x3)] [] M c s := by
  refine s_35_22 ?_
  rw [lk21 hl, lk1 hl, lr21_0 hl]
  refine ⟨rfl, ?_⟩
  refine ⟨?_, ?_⟩
  · replace h := h.1
    intro g
    replace h := h g
    exact h
  · replace h := h.2
    intro g
    replace h := h g
    refine ⟨rfl, ?_⟩
    refine ⟨rfl, ?_⟩
    refine p_66 hl h.1 ?_
    replace h := h.2
    rw [ll22 hl, lk22 hl]
    refine ⟨⟨⟨by decide, rfl⟩, h.1⟩, ?_⟩
    replace h := h.2
    intro M3
    have hlM3 : q_lay M3 := q_lay_wn hl
    replace h := h M3 rfl hlM3
    rw [lk1 hlM3]
    refine ⟨rfl, ?_⟩
    refine p_66 hlM3 h.1 ?_
    replace h := h.2
    rw [lk21 hlM3, lr21_1 hlM3, ll23 hlM3, lk23 hlM3]
    refine ⟨rfl, ?_⟩
    refine ⟨⟨⟨by decide, by decide⟩, h.1⟩, ?_⟩
    replace h := h.2
    refine ⟨h.1, ?_⟩
    replace h := h.2
    refine q_WP_mono _ _ _ _ _ _ (fun v6 M7 hh => ?_) h
    obtain ⟨hlM7, h⟩ := hh
    exact h
theorem t_37_0 {d : Nat} {P : Int → qM → Prop} {M : qM} {c s : Nat} (hl : q_lay M) (h : (∀ M1 : qM, M1 = q_wn M 64 1 (0 : Int) → q_lay M1 → q_WP q_Pr d 38 [.inr (.inr 64), .inl (q_nm M1 21 2)] M1 (fun v2 M3 => q_lay M3 ∧ (q_At q_m37 (q_WP q_Pr d) P 15 [(0, .inr (.inr 64)), (1, .inr (.inr 21)), (2, .inl (0 : Int))] [] M3 c s)))) : q_At q_m37 (q_WP q_Pr d) P 0 [(0, .inr (.inr 64)), (1, .inr (.inr 21))] [] M c s := by
  refine s_37_0 ?_
  rw [lk64 hl]
  refine ⟨rfl, ?_⟩
  intro M1
  have hlM1 : q_lay M1 := q_lay_wn hl
  replace h := h M1 rfl hlM1
  rw [lk21 hlM1, lk64 hlM1]
  refine ⟨rfl, ?_⟩
  refine ⟨rfl, ?_⟩
  refine q_WP_mono _ _ _ _ _ _ (fun v2 M3 hh => ?_) h
  obtain ⟨hlM3, h⟩ := hh
  exact h
theorem t_37_15 {d : Nat} {P : Int → qM → Prop} {x2 : Int} {M : qM} {c s : Nat} (hl : q_lay M) (h : (((q_nm M 21 2) ≤ x2 → (q_At q_m37 (q_WP q_Pr d) P 88 [(0, .inr (.inr 64)), (2, .inl (7 : Int)), (3, .inl (0 : Int))] [] M c s)) ∧ (x2 < (q_nm M 21 2) → ((0 ≤ x2 ∧ x2 < 20) ∧ ((0 ≤ x2 ∧ x2 < 20) ∧ q_WP q_Pr d 38 [.inr (.inr 64), .inl (q_nm M 22 x2)] M (fun v1 M2 => q_lay M2 ∧ ((q_kd M2 (q_rf M 23 x2) = 6) ∧ q_WP q_Pr d 38 [.inr (.inr 64), .inl (q_nm M2 (q_rf M 23 x2) 1)] M2 (fun v3 M4 => q_lay M4 ∧ (q_At q_m37 (q_WP q_Pr d) P 51 [(0, .inr (.inr 64)), (1, .inr (.inr 21)), (2, .inl x2), (3, .inr (.inr (q_rf M 23 x2))), (4, .inl (0 : Int))] [] M4 c s))))))))) : q_At q_m37 (q_WP q_Pr d) P 15 [(0, .inr (.inr 64)), (1, .inr (.inr 21)), (2, .inl x2)] [] M c s := by
  refine s_37_15 ?_
  rw [lk21 hl, lr21_1 hl, ll23 hl, lk23 hl, lr21_0 hl, ll22 hl, lk22 hl, lk64 hl]
  refine ⟨rfl, ?_⟩
  refine ⟨?_, ?_⟩
  · replace h := h.1
    intro g
    replace h := h g
    exact h
  · replace h := h.2
    intro g
    replace h := h g
    refine ⟨rfl, ?_⟩
    refine ⟨⟨⟨by decide, by decide⟩, h.1⟩, ?_⟩
    replace h := h.2
    refine ⟨rfl, ?_⟩
    refine ⟨⟨rfl, h.1⟩, ?_⟩
    replace h := h.2
    refine ⟨rfl, ?_⟩
    refine q_WP_mono _ _ _ _ _ _ (fun v1 M2 hh => ?_) h
    obtain ⟨hlM2, h⟩ := hh
    rw [lk64 hlM2]
    refine ⟨h.1, ?_⟩
    replace h := h.2
    refine ⟨rfl, ?_⟩
    refine q_WP_mono _ _ _ _ _ _ (fun v3 M4 hh => ?_) h
    obtain ⟨hlM4, h⟩ := hh
    exact h
theorem t_37_51 {d : Nat} {P : Int → qM → Prop} {x2 x3 x4 : Int} {M : qM} {c s : Nat} (hl : q_lay M) (h : ((q_kd M x3 = 6) ∧ (((q_nm M x3 1) ≤ x4 → (q_At q_m37 (q_WP q_Pr d) P 15 [(0, .inr (.inr 64)), (1, .inr (.inr 21)), (2, .inl (w32 (x2 + 1)))] [] M c s)) ∧ (x4 < (q_nm M x3 1) → ((q_kd M x3 = 6) ∧ (((q_kd M (q_rf M x3 0) = 12 ∨ q_kd M (q_rf M x3 0) = 16) ∧ 0 ≤ x4 ∧ x4 < q_ln M (q_rf M x3 0)) ∧ q_WP q_Pr d 38 [.inr (.inr 64), .inl (q_nm M (q_rf M x3 0) x4)] M (fun v1 M2 => q_lay M2 ∧ (q_At q_m37 (q_WP q_Pr d) P 51 [(0, .inr (.inr 64)), (1, .inr (.inr 21)), (2, .inl x2), (3, .inr (.inr x3)), (4, .inl (w32 (x4 + 1)))] [] M2 c s)))))))) : q_At q_m37 (q_WP q_Pr d) P 51 [(0, .inr (.inr 64)), (1, .inr (.inr 21)), (2, .inl x2), (3, .inr (.inr x3)), (4, .inl x4)] [] M c s := by
  refine s_37_51 ?_
  rw [lk64 hl]
  refine ⟨h.1, ?_⟩
  replace h := h.2
  refine ⟨?_, ?_⟩
  · replace h := h.1
    intro g
    replace h := h g
    exact h
  · replace h := h.2
    intro g
    replace h := h g
    refine ⟨h.1, ?_⟩
    replace h := h.2
    refine ⟨h.1, ?_⟩
    replace h := h.2
    refine ⟨rfl, ?_⟩
    refine q_WP_mono _ _ _ _ _ _ (fun v1 M2 hh => ?_) h
    obtain ⟨hlM2, h⟩ := hh
    exact h
theorem t_37_88 {d : Nat} {P : Int → qM → Prop} {x2 x3 : Int} {M : qM} {c s : Nat} (hl : q_lay M) (h : (((q_nm M 64 1) ≤ x3 → q_WP q_Pr d 38 [.inr (.inr 64), .inl x2] M (fun v1 M2 => q_lay M2 ∧ (P (0 : Int) M2))) ∧ (x3 < (q_nm M 64 1) → ((0 ≤ x3 ∧ x3 < 2042) ∧ (q_At q_m37 (q_WP q_Pr d) P 88 [(0, .inr (.inr 64)), (2, .inl (Int.tmod (w32 ((w32 ((3 : Int) * x2)) + (q_and (q_nm M 65 x3) (255 : Int)))) (251 : Int))), (3, .inl (w32 (x3 + 1)))] [] M c s))))) : q_At q_m37 (q_WP q_Pr d) P 88 [(0, .inr (.inr 64)), (2, .inl x2), (3, .inl x3)] [] M c s := by
  refine s_37_88 ?_
  rw [lk64 hl, lr64_0 hl, ll65 hl, lk65 hl]
  refine ⟨rfl, ?_⟩
  refine ⟨?_, ?_⟩
  · replace h := h.1
    intro g
    replace h := h g
    refine ⟨rfl, ?_⟩
    refine q_WP_mono _ _ _ _ _ _ (fun v1 M2 hh => ?_) h
    obtain ⟨hlM2, h⟩ := hh
    exact h
  · replace h := h.2
    intro g
    replace h := h g
    refine ⟨rfl, ?_⟩
    refine ⟨⟨Or.inl rfl, h.1⟩, ?_⟩
    replace h := h.2
    refine ⟨by decide, ?_⟩
    exact h
theorem t_38_0 {d : Nat} {P : Int → qM → Prop} {x1 : Int} {M : qM} {c s : Nat} (hl : q_lay M) (h : (((2042 : Int) ≤ (q_nm M 64 1) → (P (0 : Int) M)) ∧ ((q_nm M 64 1) < (2042 : Int) → ((0 ≤ (q_nm M 64 1) ∧ (q_nm M 64 1) < 2042) ∧ (∀ M1 : qM, M1 = q_wn M 65 (q_nm M 64 1) (w8 x1) → q_lay M1 → (∀ M2 : qM, M2 = q_wn M1 64 1 (w32 ((q_nm M1 64 1) + (1 : Int))) → q_lay M2 → (P (0 : Int) M2))))))) : q_At q_m38 (q_WP q_Pr d) P 0 [(0, .inr (.inr 64)), (1, .inl x1)] [] M c s := by
  refine s_38_0 ?_
  rw [lk64 hl, lr64_0 hl, ll65 hl, lk65 hl, q_bs12, w8_w8]
  refine ⟨rfl, ?_⟩
  refine ⟨?_, ?_⟩
  · replace h := h.1
    intro g
    replace h := h g
    exact h
  · replace h := h.2
    intro g
    replace h := h g
    refine ⟨rfl, ?_⟩
    refine ⟨rfl, ?_⟩
    refine ⟨⟨Or.inl rfl, h.1⟩, ?_⟩
    replace h := h.2
    intro M1
    have hlM1 : q_lay M1 := q_lay_wn hl
    replace h := h M1 rfl hlM1
    rw [lk64 hlM1]
    refine ⟨rfl, ?_⟩
    refine ⟨rfl, ?_⟩
    intro M2
    have hlM2 : q_lay M2 := q_lay_wn hlM1
    replace h := h M2 rfl hlM2
    exact h
theorem t_39_0 {d : Nat} {P : Int → qM → Prop} {x1 : Int} {M : qM} {c s : Nat} (hl : q_lay M) (h : ((q_nm M 1 1 ≤ 2100) ∧ (((q_B M (0 : Int)) = (-1 : Int) → (P (0 : Int) M)) ∧ (¬ (q_B M (0 : Int)) = (-1 : Int) → (((q_B M (0 : Int)) ≤ (20 : Int) → (q_At q_m39 (q_WP q_Pr (d + 1)) P 24 [(0, .inr (.inr 1)), (1, .inl x1), (2, .inl (q_B M (0 : Int))), (3, .inl (1 : Int)), (4, .inl (0 : Int))] [] M c s)) ∧ ((20 : Int) < (q_B M (0 : Int)) → (P (0 : Int) M))))))) : q_At q_m39 (q_WP q_Pr (d + 1)) P 0 [(0, .inr (.inr 1)), (1, .inl x1)] [] M c s := by
  refine s_39_0 ?_
  rw [lk1 hl]
  refine ⟨rfl, ?_⟩
  refine p_66 hl h.1 ?_
  replace h := h.2
  refine ⟨?_, ?_⟩
  · replace h := h.1
    intro g
    replace h := h g
    refine ⟨⟨by decide, by decide⟩, ?_⟩
    exact h
  · replace h := h.2
    intro g
    replace h := h g
    refine ⟨?_, ?_⟩
    · replace h := h.1
      intro g
      replace h := h g
      exact h
    · replace h := h.2
      intro g
      replace h := h g
      refine ⟨⟨by decide, by decide⟩, ?_⟩
      exact h
theorem t_39_24 {d : Nat} {P : Int → qM → Prop} {x1 x2 x3 x4 : Int} {M : qM} {c s : Nat} (hl : q_lay M) (h : ((x2 ≤ x4 → (q_At q_m39 (q_WP q_Pr (d + 1)) P 92 [(0, .inr (.inr 1)), (3, .inl x3), (4, .inl (7 : Int)), (5, .inl (0 : Int))] [] M c s)) ∧ (x4 < x2 → ((q_nm M 1 1 ≤ 2100) ∧ ((q_nm M 1 1 ≤ 2100) ∧ (((q_B M x3) = (-1 : Int) → (P (0 : Int) M)) ∧ (¬ (q_B M x3) = (-1 : Int) → ((x1 ≤ (q_B M x3) → (P (0 : Int) M)) ∧ ((q_B M x3) < x1 → q_WP q_Pr (d + 1) 61 [.inr (.inr 1), .inl (w32 (x3 + (2 : Int))), .inl (q_B M (w32 (x3 + (1 : Int))))] M (fun v5 M6 => q_lay M6 ∧ ((¬ v5 = 0 → (q_At q_m39 (q_WP q_Pr (d + 1)) P 24 [(0, .inr (.inr 1)), (1, .inl x1), (2, .inl x2), (3, .inl (w32 (x3 + (w32 ((2 : Int) + (q_B M (w32 (x3 + (1 : Int))))))))), (4, .inl (w32 (x4 + 1)))] [] M6 c s)) ∧ (v5 = 0 → (P (0 : Int) M6))))))))))))) : q_At q_m39 (q_WP q_Pr (d + 1)) P 24 [(0, .inr (.inr 1)), (1, .inl x1), (2, .inl x2), (3, .inl x3), (4, .inl x4)] [] M c s := by
  refine s_39_24 ?_
  rw [lk1 hl]
  refine ⟨?_, ?_⟩
  · replace h := h.1
    intro g
    replace h := h g
    exact h
  · replace h := h.2
    intro g
    replace h := h g
    refine ⟨rfl, ?_⟩
    refine p_66 hl h.1 ?_
    replace h := h.2
    rw [lk1 hl]
    refine ⟨rfl, ?_⟩
    refine p_66 hl h.1 ?_
    replace h := h.2
    refine ⟨?_, ?_⟩
    · replace h := h.1
      intro g
      replace h := h g
      refine ⟨⟨by decide, by decide⟩, ?_⟩
      exact h
    · replace h := h.2
      intro g
      replace h := h g
      refine ⟨?_, ?_⟩
      · replace h := h.1
        intro g
        replace h := h g
        refine ⟨⟨by decide, by decide⟩, ?_⟩
        exact h
      · replace h := h.2
        intro g
        replace h := h g
        refine q_WP_mono _ _ _ _ _ _ (fun v5 M6 hh => ?_) h
        obtain ⟨hlM6, h⟩ := hh
        refine ⟨?_, ?_⟩
        · replace h := h.1
          intro g
          replace h := h g
          exact h
        · replace h := h.2
          intro g
          replace h := h g
          refine ⟨⟨by decide, by decide⟩, ?_⟩
          exact h
theorem t_39_92 {d : Nat} {P : Int → qM → Prop} {x3 x4 x5 : Int} {M : qM} {c s : Nat} (hl : q_lay M) (h : ((x3 ≤ x5 → ((¬ (w32 (x3 + (1 : Int))) = (q_nm M 1 1) → (P (0 : Int) M)) ∧ ((w32 (x3 + (1 : Int))) = (q_nm M 1 1) → ((q_nm M 1 1 ≤ 2100) ∧ ((¬ (q_B M x3) = x4 → (P (0 : Int) M)) ∧ ((q_B M x3) = x4 → (P (1 : Int) M))))))) ∧ (x5 < x3 → ((q_nm M 1 1 ≤ 2100) ∧ (q_At q_m39 (q_WP q_Pr (d + 1)) P 92 [(0, .inr (.inr 1)), (3, .inl x3), (4, .inl (Int.tmod (w32 ((w32 ((3 : Int) * x4)) + (q_B M x5))) (251 : Int))), (5, .inl (w32 (x5 + 1)))] [] M c s))))) : q_At q_m39 (q_WP q_Pr (d + 1)) P 92 [(0, .inr (.inr 1)), (3, .inl x3), (4, .inl x4), (5, .inl x5)] [] M c s := by
  refine s_39_92 ?_
  rw [lk1 hl]
  refine ⟨?_, ?_⟩
  · replace h := h.1
    intro g
    replace h := h g
    refine ⟨rfl, ?_⟩
    refine ⟨?_, ?_⟩
    · replace h := h.1
      intro g
      replace h := h g
      refine ⟨⟨by decide, by decide⟩, ?_⟩
      exact h
    · replace h := h.2
      intro g
      replace h := h g
      refine ⟨rfl, ?_⟩
      refine p_66 hl h.1 ?_
      replace h := h.2
      refine ⟨?_, ?_⟩
      · replace h := h.1
        intro g
        replace h := h g
        refine ⟨⟨by decide, by decide⟩, ?_⟩
        exact h
      · replace h := h.2
        intro g
        replace h := h g
        refine ⟨⟨by decide, by decide⟩, ?_⟩
        exact h
  · replace h := h.2
    intro g
    replace h := h g
    refine ⟨rfl, ?_⟩
    refine p_66 hl h.1 ?_
    replace h := h.2
    refine ⟨by decide, ?_⟩
    exact h
theorem t_61_0 {d : Nat} {P : Int → qM → Prop} {x1 x2 : Int} {M : qM} {c s : Nat} (hl : q_lay M) (h : ((x2 < (1 : Int) → (P (0 : Int) M)) ∧ ((1 : Int) ≤ x2 → ((x2 ≤ (100 : Int) → (q_At q_m61 (q_WP q_Pr d) P 15 [(0, .inr (.inr 1)), (1, .inl x1), (2, .inl x2), (3, .inl x1)] [] M c s)) ∧ ((100 : Int) < x2 → (P (0 : Int) M)))))) : q_At q_m61 (q_WP q_Pr d) P 0 [(0, .inr (.inr 1)), (1, .inl x1), (2, .inl x2)] [] M c s := by
  refine s_61_0 ?_
  refine ⟨?_, ?_⟩
  · replace h := h.1
    intro g
    replace h := h g
    refine ⟨⟨by decide, by decide⟩, ?_⟩
    exact h
  · replace h := h.2
    intro g
    replace h := h g
    refine ⟨?_, ?_⟩
    · replace h := h.1
      intro g
      replace h := h g
      exact h
    · replace h := h.2
      intro g
      replace h := h g
      refine ⟨⟨by decide, by decide⟩, ?_⟩
      exact h
theorem t_61_15 {d : Nat} {P : Int → qM → Prop} {x1 x2 x3 : Int} {M : qM} {c s : Nat} (hl : q_lay M) (h : (((w32 (x1 + x2)) ≤ x3 → (P (1 : Int) M)) ∧ (x3 < (w32 (x1 + x2)) → ((q_nm M 1 1 ≤ 2100) ∧ ((97 ≤ q_B M x3 ∧ q_B M x3 ≤ 122 → (q_At q_m61 (q_WP q_Pr (d + 2)) P 15 [(0, .inr (.inr 1)), (1, .inl x1), (2, .inl x2), (3, .inl (w32 (x3 + 1)))] [] M c s)) ∧ (¬ (97 ≤ q_B M x3 ∧ q_B M x3 ≤ 122) → ((q_nm M 1 1 ≤ 2100) ∧ (((q_B M x3) = (32 : Int) → (q_At q_m61 (q_WP q_Pr (d + 2)) P 15 [(0, .inr (.inr 1)), (1, .inl x1), (2, .inl x2), (3, .inl (w32 (x3 + 1)))] [] M c s)) ∧ (¬ (q_B M x3) = (32 : Int) → (P (0 : Int) M)))))))))) : q_At q_m61 (q_WP q_Pr (d + 2)) P 15 [(0, .inr (.inr 1)), (1, .inl x1), (2, .inl x2), (3, .inl x3)] [] M c s := by
  refine s_61_15 ?_
  rw [lk1 hl]
  refine ⟨?_, ?_⟩
  · replace h := h.1
    intro g
    replace h := h g
    refine ⟨⟨by decide, by decide⟩, ?_⟩
    exact h
  · replace h := h.2
    intro g
    replace h := h g
    refine ⟨rfl, ?_⟩
    refine p_67 hl h.1 (fun g => ?_) (fun g => ?_)
    · replace h := h.2.1 g
      rw [lk1 hl]
      refine ⟨fun _ => ?_, fun g => absurd g (by decide)⟩
      exact h
    · replace h := h.2.2 g
      rw [lk1 hl]
      refine ⟨fun g => absurd g (by decide), fun _ => ?_⟩
      refine ⟨rfl, ?_⟩
      refine p_66 hl h.1 ?_
      replace h := h.2
      refine ⟨?_, ?_⟩
      · replace h := h.1
        intro g
        replace h := h g
        exact h
      · replace h := h.2
        intro g
        replace h := h g
        refine ⟨⟨by decide, by decide⟩, ?_⟩
        exact h
theorem t_62_0 {d : Nat} {P : Int → qM → Prop} {x0 x2 x3 : Int} {M : qM} {c s : Nat} (hl : q_lay M) (h : ((q_kd M x0 = 6) ∧ (∀ M1 : qM, M1 = q_wn M x0 1 (0 : Int) → q_lay M1 → (q_At q_m62 (q_WP q_Pr d) P 8 [(0, .inr (.inr x0)), (1, .inr (.inr 1)), (2, .inl x2), (3, .inl x3), (4, .inl x2)] [] M1 c s)))) : q_At q_m62 (q_WP q_Pr d) P 0 [(0, .inr (.inr x0)), (1, .inr (.inr 1)), (2, .inl x2), (3, .inl x3)] [] M c s := by
  refine s_62_0 ?_
  refine ⟨h.1, ?_⟩
  replace h := h.2
  intro M1
  have hlM1 : q_lay M1 := q_lay_wn hl
  replace h := h M1 rfl hlM1
  exact h
theorem t_62_8 {d : Nat} {P : Int → qM → Prop} {x0 x2 x3 x4 : Int} {M : qM} {c s : Nat} (hl : q_lay M) (h : (((w32 (x2 + x3)) ≤ x4 → (P (0 : Int) M)) ∧ (x4 < (w32 (x2 + x3)) → ((q_nm M 1 1 ≤ 2100) ∧ ((q_kd M x0 = 6) ∧ q_WP q_Pr (d + 1) 59 [.inr (.inr x0), .inl (q_B M x4)] M (fun v3 M4 => q_lay M4 ∧ (q_At q_m62 (q_WP q_Pr (d + 1)) P 8 [(0, .inr (.inr x0)), (1, .inr (.inr 1)), (2, .inl x2), (3, .inl x3), (4, .inl (w32 (x4 + 1)))] [] M4 c s))))))) : q_At q_m62 (q_WP q_Pr (d + 1)) P 8 [(0, .inr (.inr x0)), (1, .inr (.inr 1)), (2, .inl x2), (3, .inl x3), (4, .inl x4)] [] M c s := by
  refine s_62_8 ?_
  rw [lk1 hl]
  refine ⟨?_, ?_⟩
  · replace h := h.1
    intro g
    replace h := h g
    exact h
  · replace h := h.2
    intro g
    replace h := h g
    refine ⟨rfl, ?_⟩
    refine p_66 hl h.1 ?_
    replace h := h.2
    refine ⟨h.1, ?_⟩
    replace h := h.2
    refine q_WP_mono _ _ _ _ _ _ (fun v3 M4 hh => ?_) h
    obtain ⟨hlM4, h⟩ := hh
    exact h
theorem t_80_0 {d : Nat} {P : Int → qM → Prop} {x2 x3 x4 : Int} {M : qM} {c s : Nat} (hl : q_lay M) (h : (((30 : Int) ≤ (q_nm M 3 9) → (P (-1 : Int) M)) ∧ ((q_nm M 3 9) < (30 : Int) → (((q_nm M 1 1) < (1 : Int) → (P (-1 : Int) M)) ∧ ((1 : Int) ≤ (q_nm M 1 1) → (((q_nm M 1 1) ≤ (8 : Int) → (q_At q_m80 (q_WP q_Pr d) P 31 [(0, .inr (.inr 3)), (1, .inr (.inr 1)), (2, .inl x2), (3, .inl x3), (4, .inl x4), (5, .inl (0 : Int))] [] M c s)) ∧ ((8 : Int) < (q_nm M 1 1) → (P (-1 : Int) M)))))))) : q_At q_m80 (q_WP q_Pr d) P 0 [(0, .inr (.inr 3)), (1, .inr (.inr 1)), (2, .inl x2), (3, .inl x3), (4, .inl x4)] [] M c s := by
  refine s_80_0 ?_
  rw [lk3 hl, lk1 hl]
  refine ⟨rfl, ?_⟩
  refine ⟨?_, ?_⟩
  · replace h := h.1
    intro g
    replace h := h g
    exact h
  · replace h := h.2
    intro g
    replace h := h g
    refine ⟨rfl, ?_⟩
    refine ⟨?_, ?_⟩
    · replace h := h.1
      intro g
      replace h := h g
      exact h
    · replace h := h.2
      intro g
      replace h := h g
      refine ⟨rfl, ?_⟩
      refine ⟨?_, ?_⟩
      · replace h := h.1
        intro g
        replace h := h g
        exact h
      · replace h := h.2
        intro g
        replace h := h g
        exact h
theorem t_80_31 {d : Nat} {P : Int → qM → Prop} {x2 x3 x4 x5 : Int} {M : qM} {c s : Nat} (hl : q_lay M) (h : (((q_nm M 1 1) ≤ x5 → ((0 ≤ (q_nm M 3 9) ∧ (q_nm M 3 9) < 30) ∧ (∀ M1 : qM, M1 = q_wn M 5 (q_nm M 3 9) (q_nm M 1 1) → q_lay M1 → q_WP q_Pr (d + 2) 81 [.inr (.inr 3), .inl (q_nm M1 3 9)] M1 (fun v2 M3 => q_lay M3 ∧ (q_At q_m80 (q_WP q_Pr (d + 2)) P 103 [(0, .inr (.inr 3)), (2, .inl x2), (3, .inl x3), (4, .inl x4), (5, .inl (0 : Int))] [] M3 c s))))) ∧ (x5 < (q_nm M 1 1) → ((q_nm M 1 1 ≤ 2100) ∧ ((97 ≤ q_B M x5 ∧ q_B M x5 ≤ 122 → ((q_nm M 1 1 ≤ 2100) ∧ ((0 ≤ (w32 ((w32 ((q_nm M 3 9) * (8 : Int))) + x5)) ∧ (w32 ((w32 ((q_nm M 3 9) * (8 : Int))) + x5)) < 240) ∧ (∀ M8 : qM, M8 = q_wn M 4 (w32 ((w32 ((q_nm M 3 9) * (8 : Int))) + x5)) (w8 (q_B M x5)) → q_lay M8 → (q_At q_m80 (q_WP q_Pr (d + 2)) P 31 [(0, .inr (.inr 3)), (1, .inr (.inr 1)), (2, .inl x2), (3, .inl x3), (4, .inl x4), (5, .inl (w32 (x5 + 1)))] [] M8 c s))))) ∧ (¬ (97 ≤ q_B M x5 ∧ q_B M x5 ≤ 122) → (P (-1 : Int) M))))))) : q_At q_m80 (q_WP q_Pr (d + 2)) P 31 [(0, .inr (.inr 3)), (1, .inr (.inr 1)), (2, .inl x2), (3, .inl x3), (4, .inl x4), (5, .inl x5)] [] M c s := by
  refine s_80_31 ?_
  rw [lk1 hl, lk3 hl, lr3_1 hl, ll5 hl, lk5 hl]
  refine ⟨rfl, ?_⟩
  refine ⟨?_, ?_⟩
  · replace h := h.1
    intro g
    replace h := h g
    refine ⟨rfl, ?_⟩
    refine ⟨rfl, ?_⟩
    refine ⟨rfl, ?_⟩
    refine ⟨⟨⟨by decide, rfl⟩, h.1⟩, ?_⟩
    replace h := h.2
    intro M1
    have hlM1 : q_lay M1 := q_lay_wn hl
    replace h := h M1 rfl hlM1
    rw [lk3 hlM1]
    refine ⟨rfl, ?_⟩
    refine ⟨rfl, ?_⟩
    refine q_WP_mono _ _ _ _ _ _ (fun v2 M3 hh => ?_) h
    obtain ⟨hlM3, h⟩ := hh
    exact h
  · replace h := h.2
    intro g
    replace h := h g
    refine ⟨rfl, ?_⟩
    refine p_67 hl h.1 (fun g => ?_) (fun g => ?_)
    · replace h := h.2.1 g
      rw [lk3 hl, lk1 hl, lr3_0 hl]
      refine ⟨fun _ => ?_, fun g => absurd g (by decide)⟩
      refine ⟨rfl, ?_⟩
      refine ⟨rfl, ?_⟩
      refine ⟨rfl, ?_⟩
      refine p_66 hl h.1 ?_
      replace h := h.2
      rw [ll4 hl, lk4 hl, q_bs12, w8_w8]
      refine ⟨⟨Or.inl rfl, h.1⟩, ?_⟩
      replace h := h.2
      intro M8
      have hlM8 : q_lay M8 := q_lay_wn hl
      replace h := h M8 rfl hlM8
      exact h
    · replace h := h.2.2 g
      rw [lk3 hl, lk1 hl, lr3_0 hl]
      refine ⟨fun g => absurd g (by decide), fun _ => ?_⟩
      exact h
theorem t_80_103 {d : Nat} {P : Int → qM → Prop} {x2 x3 x4 x5 : Int} {M : qM} {c s : Nat} (hl : q_lay M) (h : (((q_nm M 3 9) ≤ x5 → ((0 ≤ (q_nm M 3 9) ∧ (q_nm M 3 9) < 30) ∧ (∀ M1 : qM, M1 = q_wn M 7 (q_nm M 3 9) x2 → q_lay M1 → ((0 ≤ (q_nm M1 3 9) ∧ (q_nm M1 3 9) < 30) ∧ (∀ M2 : qM, M2 = q_wn M1 8 (q_nm M1 3 9) x3 → q_lay M2 → ((0 ≤ (q_nm M2 3 9) ∧ (q_nm M2 3 9) < 30) ∧ (∀ M3 : qM, M3 = q_wn M2 9 (q_nm M2 3 9) x4 → q_lay M3 → (∀ M4 : qM, M4 = q_wn M3 3 9 (w32 ((q_nm M3 3 9) + (1 : Int))) → q_lay M4 → (P (w32 ((q_nm M4 3 9) - (1 : Int))) M4))))))))) ∧ (x5 < (q_nm M 3 9) → q_WP q_Pr d 86 [.inr (.inr 3), .inl x5, .inl x5] M (fun v5 M6 => q_lay M6 ∧ q_WP q_Pr d 86 [.inr (.inr 3), .inl (q_nm M6 3 9), .inl (q_nm M6 3 9)] M6 (fun v7 M8 => q_lay M8 ∧ ((¬ (q_lc v5 v7) = 0 → (q_At q_m80 (q_WP q_Pr d) P 103 [(0, .inr (.inr 3)), (2, .inl x2), (3, .inl x3), (4, .inl x4), (5, .inl (w32 (x5 + 1)))] [] M8 c s)) ∧ ((q_lc v5 v7) = 0 → (P (-1 : Int) M8)))))))) : q_At q_m80 (q_WP q_Pr d) P 103 [(0, .inr (.inr 3)), (2, .inl x2), (3, .inl x3), (4, .inl x4), (5, .inl x5)] [] M c s := by
  refine s_80_103 ?_
  rw [lk3 hl, lr3_3 hl, ll7 hl, lk7 hl]
  refine ⟨rfl, ?_⟩
  refine ⟨?_, ?_⟩
  · replace h := h.1
    intro g
    replace h := h g
    refine ⟨rfl, ?_⟩
    refine ⟨rfl, ?_⟩
    refine ⟨⟨⟨by decide, rfl⟩, h.1⟩, ?_⟩
    replace h := h.2
    intro M1
    have hlM1 : q_lay M1 := q_lay_wn hl
    replace h := h M1 rfl hlM1
    rw [lk3 hlM1, lr3_4 hlM1, ll8 hlM1, lk8 hlM1]
    refine ⟨rfl, ?_⟩
    refine ⟨rfl, ?_⟩
    refine ⟨⟨⟨by decide, rfl⟩, h.1⟩, ?_⟩
    replace h := h.2
    intro M2
    have hlM2 : q_lay M2 := q_lay_wn hlM1
    replace h := h M2 rfl hlM2
    rw [lk3 hlM2, lr3_5 hlM2, ll9 hlM2, lk9 hlM2]
    refine ⟨rfl, ?_⟩
    refine ⟨rfl, ?_⟩
    refine ⟨⟨⟨by decide, rfl⟩, h.1⟩, ?_⟩
    replace h := h.2
    intro M3
    have hlM3 : q_lay M3 := q_lay_wn hlM2
    replace h := h M3 rfl hlM3
    rw [lk3 hlM3]
    refine ⟨rfl, ?_⟩
    refine ⟨rfl, ?_⟩
    intro M4
    have hlM4 : q_lay M4 := q_lay_wn hlM3
    replace h := h M4 rfl hlM4
    rw [lk3 hlM4]
    refine ⟨rfl, ?_⟩
    exact h
  · replace h := h.2
    intro g
    replace h := h g
    refine ⟨rfl, ?_⟩
    refine q_WP_mono _ _ _ _ _ _ (fun v5 M6 hh => ?_) h
    obtain ⟨hlM6, h⟩ := hh
    rw [lk3 hlM6]
    refine ⟨rfl, ?_⟩
    refine ⟨rfl, ?_⟩
    refine ⟨rfl, ?_⟩
    refine q_WP_mono _ _ _ _ _ _ (fun v7 M8 hh => ?_) h
    obtain ⟨hlM8, h⟩ := hh
    refine ⟨?_, ?_⟩
    · replace h := h.1
      intro g
      replace h := h g
      exact h
    · replace h := h.2
      intro g
      replace h := h g
      exact h
theorem t_81_0 {d : Nat} {P : Int → qM → Prop} {x1 : Int} {M : qM} {c s : Nat} (hl : q_lay M) (h : (q_At q_m81 (q_WP q_Pr d) P 2 [(0, .inr (.inr 3)), (1, .inl x1), (2, .inl (0 : Int))] [] M c s)) : q_At q_m81 (q_WP q_Pr d) P 0 [(0, .inr (.inr 3)), (1, .inl x1)] [] M c s := by
  refine s_81_0 ?_
  exact h
theorem t_81_2 {d : Nat} {P : Int → qM → Prop} {x1 x2 : Int} {M : qM} {c s : Nat} (hl : q_lay M) (h : ((0 ≤ x1 ∧ x1 < 30) ∧ (((q_nm M 5 x1) ≤ x2 → ((0 ≤ x1 ∧ x1 < 30) ∧ (∀ M1 : qM, M1 = q_wn M 6 x1 x2 → q_lay M1 → q_WP q_Pr (d + 1) 82 [.inr (.inr 3), .inl x1, .inl (0 : Int), .inl x2] M1 (fun v2 M3 => q_lay M3 ∧ ((0 ≤ x1 ∧ x1 < 30) ∧ (∀ M4 : qM, M4 = q_wn M3 10 x1 v2 → q_lay M4 → ((0 ≤ x1 ∧ x1 < 30) ∧ q_WP q_Pr (d + 1) 82 [.inr (.inr 3), .inl x1, .inl x2, .inl (q_nm M4 5 x1)] M4 (fun v5 M6 => q_lay M6 ∧ ((0 ≤ x1 ∧ x1 < 30) ∧ (∀ M7 : qM, M7 = q_wn M6 11 x1 v5 → q_lay M7 → (P (0 : Int) M7))))))))))) ∧ (x2 < (q_nm M 5 x1) → (((0 ≤ x1 ∧ x1 < 30) ∧ 0 ≤ x2 ∧ x2 < 8) ∧ ((q_vow (q_nm M 4 (x1 * 8 + x2)) → ((0 ≤ x1 ∧ x1 < 30) ∧ (∀ M12 : qM, M12 = q_wn M 6 x1 x2 → q_lay M12 → q_WP q_Pr (d + 1) 82 [.inr (.inr 3), .inl x1, .inl (0 : Int), .inl x2] M12 (fun v13 M14 => q_lay M14 ∧ ((0 ≤ x1 ∧ x1 < 30) ∧ (∀ M15 : qM, M15 = q_wn M14 10 x1 v13 → q_lay M15 → ((0 ≤ x1 ∧ x1 < 30) ∧ q_WP q_Pr (d + 1) 82 [.inr (.inr 3), .inl x1, .inl x2, .inl (q_nm M15 5 x1)] M15 (fun v16 M17 => q_lay M17 ∧ ((0 ≤ x1 ∧ x1 < 30) ∧ (∀ M18 : qM, M18 = q_wn M17 11 x1 v16 → q_lay M18 → (P (0 : Int) M18))))))))))) ∧ (¬ (q_vow (q_nm M 4 (x1 * 8 + x2))) → (q_At q_m81 (q_WP q_Pr (d + 1)) P 2 [(0, .inr (.inr 3)), (1, .inl x1), (2, .inl (w32 (x2 + 1)))] [] M c s)))))))) : q_At q_m81 (q_WP q_Pr (d + 1)) P 2 [(0, .inr (.inr 3)), (1, .inl x1), (2, .inl x2)] [] M c s := by
  refine s_81_2 ?_
  rw [lk3 hl, lr3_1 hl, ll5 hl, lk5 hl, lr3_2 hl, ll6 hl, lk6 hl]
  refine ⟨rfl, ?_⟩
  refine ⟨⟨rfl, h.1⟩, ?_⟩
  replace h := h.2
  refine ⟨?_, ?_⟩
  · replace h := h.1
    intro g
    replace h := h g
    refine ⟨rfl, ?_⟩
    refine ⟨⟨⟨by decide, rfl⟩, h.1⟩, ?_⟩
    replace h := h.2
    intro M1
    have hlM1 : q_lay M1 := q_lay_wn hl
    replace h := h M1 rfl hlM1
    rw [lk3 hlM1, lr3_6 hlM1]
    refine ⟨rfl, ?_⟩
    refine ⟨rfl, ?_⟩
    refine q_WP_mono _ _ _ _ _ _ (fun v2 M3 hh => ?_) h
    obtain ⟨hlM3, h⟩ := hh
    rw [ll10 hlM3, lk10 hlM3]
    refine ⟨⟨rfl, h.1⟩, ?_⟩
    replace h := h.2
    intro M4
    have hlM4 : q_lay M4 := q_lay_wn hlM3
    replace h := h M4 rfl hlM4
    rw [lk3 hlM4, lr3_1 hlM4, ll5 hlM4, lk5 hlM4, lr3_7 hlM4]
    refine ⟨rfl, ?_⟩
    refine ⟨rfl, ?_⟩
    refine ⟨⟨rfl, h.1⟩, ?_⟩
    replace h := h.2
    refine ⟨rfl, ?_⟩
    refine q_WP_mono _ _ _ _ _ _ (fun v5 M6 hh => ?_) h
    obtain ⟨hlM6, h⟩ := hh
    rw [ll11 hlM6, lk11 hlM6]
    refine ⟨⟨rfl, h.1⟩, ?_⟩
    replace h := h.2
    intro M7
    have hlM7 : q_lay M7 := q_lay_wn hlM6
    replace h := h M7 rfl hlM7
    exact h
  · replace h := h.2
    intro g
    replace h := h g
    refine ⟨rfl, ?_⟩
    refine p_84 hl h.1 ?_
    replace h := h.2
    refine p_83 (fun g => ?_) (fun g => ?_)
    · replace h := h.1 g
      rw [lk3 hl, lr3_2 hl, ll6 hl, lk6 hl]
      refine ⟨fun _ => ?_, fun g => absurd g (by decide)⟩
      refine ⟨rfl, ?_⟩
      refine ⟨⟨⟨by decide, rfl⟩, h.1⟩, ?_⟩
      replace h := h.2
      intro M12
      have hlM12 : q_lay M12 := q_lay_wn hl
      replace h := h M12 rfl hlM12
      rw [lk3 hlM12, lr3_6 hlM12]
      refine ⟨rfl, ?_⟩
      refine ⟨rfl, ?_⟩
      refine q_WP_mono _ _ _ _ _ _ (fun v13 M14 hh => ?_) h
      obtain ⟨hlM14, h⟩ := hh
      rw [ll10 hlM14, lk10 hlM14]
      refine ⟨⟨rfl, h.1⟩, ?_⟩
      replace h := h.2
      intro M15
      have hlM15 : q_lay M15 := q_lay_wn hlM14
      replace h := h M15 rfl hlM15
      rw [lk3 hlM15, lr3_1 hlM15, ll5 hlM15, lk5 hlM15, lr3_7 hlM15]
      refine ⟨rfl, ?_⟩
      refine ⟨rfl, ?_⟩
      refine ⟨⟨rfl, h.1⟩, ?_⟩
      replace h := h.2
      refine ⟨rfl, ?_⟩
      refine q_WP_mono _ _ _ _ _ _ (fun v16 M17 hh => ?_) h
      obtain ⟨hlM17, h⟩ := hh
      rw [ll11 hlM17, lk11 hlM17]
      refine ⟨⟨rfl, h.1⟩, ?_⟩
      replace h := h.2
      intro M18
      have hlM18 : q_lay M18 := q_lay_wn hlM17
      replace h := h M18 rfl hlM18
      exact h
    · replace h := h.2 g
      rw [lk3 hl, lr3_2 hl, ll6 hl, lk6 hl]
      refine ⟨fun g => absurd g (by decide), fun _ => ?_⟩
      exact h
theorem t_82_0 {d : Nat} {P : Int → qM → Prop} {x1 x2 x3 : Int} {M : qM} {c s : Nat} (hl : q_lay M) (h : (q_At q_m82 (q_WP q_Pr d) P 6 [(0, .inr (.inr 3)), (1, .inl x1), (3, .inl x3), (4, .inr (.inl (0 : Int))), (6, .inl x2)] [] M c s)) : q_At q_m82 (q_WP q_Pr d) P 0 [(0, .inr (.inr 3)), (1, .inl x1), (2, .inl x2), (3, .inl x3)] [] M c s := by
  refine s_82_0 ?_
  exact h
theorem t_82_6 {d : Nat} {P : Int → qM → Prop} {x1 x3 x4 x6 : Int} {M : qM} {c s : Nat} (hl : q_lay M) (h : ((x3 ≤ x6 → (P x4 M)) ∧ (x6 < x3 → (((0 ≤ x1 ∧ x1 < 30) ∧ 0 ≤ x6 ∧ x6 < 8) ∧ (q_At q_m82 (q_WP q_Pr (d + 1)) P 6 [(0, .inr (.inr 3)), (1, .inl x1), (3, .inl x3), (4, .inr (.inl (w64 ((w64 ((w64 (x4 * (37 : Int))) + (q_nm M 4 (x1 * 8 + x6)))) - (96 : Int))))), (6, .inl (w32 (x6 + 1)))] [] M c s))))) : q_At q_m82 (q_WP q_Pr (d + 1)) P 6 [(0, .inr (.inr 3)), (1, .inl x1), (3, .inl x3), (4, .inr (.inl x4)), (6, .inl x6)] [] M c s := by
  refine s_82_6 ?_
  rw [lk3 hl]
  refine ⟨?_, ?_⟩
  · replace h := h.1
    intro g
    replace h := h g
    exact h
  · replace h := h.2
    intro g
    replace h := h g
    refine ⟨rfl, ?_⟩
    refine p_84 hl h.1 ?_
    replace h := h.2
    exact h
theorem t_85_0 {d : Nat} {P : Int → qM → Prop} {x1 x2 : Int} {M : qM} {c s : Nat} (hl : q_lay M) (h : ((¬ x1 = (-1 : Int) → ((0 ≤ x1 ∧ x1 < 30) ∧ ((0 ≤ x2 ∧ x2 < 30) ∧ ((0 ≤ x2 ∧ x2 < 30) ∧ (P (w32 ((w32 ((q_nm M 6 x1) + (q_nm M 5 x2))) - (q_nm M 6 x2))) M))))) ∧ (x1 = (-1 : Int) → ((0 ≤ x2 ∧ x2 < 30) ∧ ((0 ≤ x2 ∧ x2 < 30) ∧ (P (w32 ((w32 ((0 : Int) + (q_nm M 5 x2))) - (q_nm M 6 x2))) M)))))) : q_At q_m85 (q_WP q_Pr d) P 0 [(0, .inr (.inr 3)), (1, .inl x1), (2, .inl x2)] [] M c s := by
  refine s_85_0 ?_
  rw [lk3 hl, lr3_2 hl, ll6 hl, lk6 hl, lr3_1 hl, ll5 hl, lk5 hl]
  refine ⟨?_, ?_⟩
  · replace h := h.1
    intro g
    replace h := h g
    refine ⟨rfl, ?_⟩
    refine ⟨⟨rfl, h.1⟩, ?_⟩
    replace h := h.2
    refine ⟨rfl, ?_⟩
    refine ⟨⟨rfl, h.1⟩, ?_⟩
    replace h := h.2
    refine ⟨rfl, ?_⟩
    refine ⟨⟨rfl, h.1⟩, ?_⟩
    replace h := h.2
    exact h
  · replace h := h.2
    intro g
    replace h := h g
    refine ⟨rfl, ?_⟩
    refine ⟨⟨rfl, h.1⟩, ?_⟩
    replace h := h.2
    refine ⟨rfl, ?_⟩
    refine ⟨⟨rfl, h.1⟩, ?_⟩
    replace h := h.2
    exact h
theorem t_86_0 {d : Nat} {P : Int → qM → Prop} {x1 x2 : Int} {M : qM} {c s : Nat} (hl : q_lay M) (h : ((¬ x1 = (-1 : Int) → ((0 ≤ x1 ∧ x1 < 30) ∧ ((0 ≤ x2 ∧ x2 < 30) ∧ ((0 ≤ x2 ∧ x2 < 30) ∧ ((0 ≤ (w32 ((q_nm M 5 x2) - (q_nm M 6 x2))) ∧ (w32 ((q_nm M 5 x2) - (q_nm M 6 x2))) < 17) ∧ ((0 ≤ x2 ∧ x2 < 30) ∧ (P (w64 ((w64 ((q_nm M 10 x1) * (q_nm M 12 (w32 ((q_nm M 5 x2) - (q_nm M 6 x2)))))) + (q_nm M 11 x2))) M))))))) ∧ (x1 = (-1 : Int) → ((0 ≤ x2 ∧ x2 < 30) ∧ ((0 ≤ x2 ∧ x2 < 30) ∧ ((0 ≤ (w32 ((q_nm M 5 x2) - (q_nm M 6 x2))) ∧ (w32 ((q_nm M 5 x2) - (q_nm M 6 x2))) < 17) ∧ ((0 ≤ x2 ∧ x2 < 30) ∧ (P (w64 ((w64 ((0 : Int) * (q_nm M 12 (w32 ((q_nm M 5 x2) - (q_nm M 6 x2)))))) + (q_nm M 11 x2))) M)))))))) : q_At q_m86 (q_WP q_Pr d) P 0 [(0, .inr (.inr 3)), (1, .inl x1), (2, .inl x2)] [] M c s := by
  refine s_86_0 ?_
  rw [lk3 hl, lr3_6 hl, ll10 hl, lk10 hl, lr3_1 hl, ll5 hl, lk5 hl, lr3_2 hl, ll6 hl, lk6 hl, lr3_8 hl, ll12 hl, lk12 hl, lr3_7 hl, ll11 hl, lk11 hl]
  refine ⟨?_, ?_⟩
  · replace h := h.1
    intro g
    replace h := h g
    refine ⟨rfl, ?_⟩
    refine ⟨⟨rfl, h.1⟩, ?_⟩
    replace h := h.2
    refine ⟨rfl, ?_⟩
    refine ⟨rfl, ?_⟩
    refine ⟨⟨rfl, h.1⟩, ?_⟩
    replace h := h.2
    refine ⟨rfl, ?_⟩
    refine ⟨⟨rfl, h.1⟩, ?_⟩
    replace h := h.2
    refine ⟨⟨rfl, h.1⟩, ?_⟩
    replace h := h.2
    refine ⟨rfl, ?_⟩
    refine ⟨⟨rfl, h.1⟩, ?_⟩
    replace h := h.2
    exact h
  · replace h := h.2
    intro g
    replace h := h g
    refine ⟨rfl, ?_⟩
    refine ⟨rfl, ?_⟩
    refine ⟨⟨rfl, h.1⟩, ?_⟩
    replace h := h.2
    refine ⟨rfl, ?_⟩
    refine ⟨⟨rfl, h.1⟩, ?_⟩
    replace h := h.2
    refine ⟨⟨rfl, h.1⟩, ?_⟩
    replace h := h.2
    refine ⟨rfl, ?_⟩
    refine ⟨⟨rfl, h.1⟩, ?_⟩
    replace h := h.2
    exact h
theorem t_87_0 {d : Nat} {P : Int → qM → Prop} {x1 x2 x3 : Int} {M : qM} {c s : Nat} (hl : q_lay M) (h : ((¬ x1 = (-1 : Int) → ((0 ≤ x1 ∧ x1 < 30) ∧ (((q_nm M 6 x1) ≤ x3 → ((0 ≤ x2 ∧ x2 < 30) ∧ ((0 ≤ (w32 ((w32 ((w32 ((w32 (x2 * (8 : Int))) + (q_nm M 6 x2))) + x3)) - (q_nm M 6 x1))) ∧ (w32 ((w32 ((w32 ((w32 (x2 * (8 : Int))) + (q_nm M 6 x2))) + x3)) - (q_nm M 6 x1))) < 240) ∧ (P (q_nm M 4 (w32 ((w32 ((w32 ((w32 (x2 * (8 : Int))) + (q_nm M 6 x2))) + x3)) - (q_nm M 6 x1)))) M)))) ∧ (x3 < (q_nm M 6 x1) → ((0 ≤ (w32 ((w32 (x1 * (8 : Int))) + x3)) ∧ (w32 ((w32 (x1 * (8 : Int))) + x3)) < 240) ∧ (P (q_nm M 4 (w32 ((w32 (x1 * (8 : Int))) + x3))) M)))))) ∧ (x1 = (-1 : Int) → (((0 : Int) ≤ x3 → ((0 ≤ x2 ∧ x2 < 30) ∧ ((0 ≤ (w32 ((w32 ((w32 ((w32 (x2 * (8 : Int))) + (q_nm M 6 x2))) + x3)) - (0 : Int))) ∧ (w32 ((w32 ((w32 ((w32 (x2 * (8 : Int))) + (q_nm M 6 x2))) + x3)) - (0 : Int))) < 240) ∧ (P (q_nm M 4 (w32 ((w32 ((w32 ((w32 (x2 * (8 : Int))) + (q_nm M 6 x2))) + x3)) - (0 : Int)))) M)))) ∧ (x3 < (0 : Int) → ((0 ≤ (w32 ((w32 (x1 * (8 : Int))) + x3)) ∧ (w32 ((w32 (x1 * (8 : Int))) + x3)) < 240) ∧ (P (q_nm M 4 (w32 ((w32 (x1 * (8 : Int))) + x3))) M))))))) : q_At q_m87 (q_WP q_Pr d) P 0 [(0, .inr (.inr 3)), (1, .inl x1), (2, .inl x2), (3, .inl x3)] [] M c s := by
  refine s_87_0 ?_
  rw [lk3 hl, lr3_2 hl, ll6 hl, lk6 hl, lr3_0 hl, ll4 hl, lk4 hl]
  refine ⟨?_, ?_⟩
  · replace h := h.1
    intro g
    replace h := h g
    refine ⟨rfl, ?_⟩
    refine ⟨⟨rfl, h.1⟩, ?_⟩
    replace h := h.2
    refine ⟨rfl, ?_⟩
    refine ⟨?_, ?_⟩
    · replace h := h.1
      intro g
      replace h := h g
      refine ⟨rfl, ?_⟩
      refine ⟨⟨rfl, h.1⟩, ?_⟩
      replace h := h.2
      refine ⟨⟨Or.inl rfl, h.1⟩, ?_⟩
      replace h := h.2
      exact h
    · replace h := h.2
      intro g
      replace h := h g
      refine ⟨⟨Or.inl rfl, h.1⟩, ?_⟩
      replace h := h.2
      exact h
  · replace h := h.2
    intro g
    replace h := h g
    refine ⟨rfl, ?_⟩
    refine ⟨?_, ?_⟩
    · replace h := h.1
      intro g
      replace h := h g
      refine ⟨rfl, ?_⟩
      refine ⟨⟨rfl, h.1⟩, ?_⟩
      replace h := h.2
      refine ⟨⟨Or.inl rfl, h.1⟩, ?_⟩
      replace h := h.2
      exact h
    · replace h := h.2
      intro g
      replace h := h g
      refine ⟨⟨Or.inl rfl, h.1⟩, ?_⟩
      replace h := h.2
      exact h
theorem t_88_0 {d : Nat} {P : Int → qM → Prop} {x1 x2 : Int} {M : qM} {c s : Nat} (hl : q_lay M) (h : ((¬ x1 = x2 → q_WP q_Pr d 85 [.inr (.inr 3), .inl x1, .inl x2] M (fun v1 M2 => q_lay M2 ∧ ((v1 ≤ (8 : Int) → q_WP q_Pr d 86 [.inr (.inr 3), .inl x1, .inl x2] M2 (fun v3 M4 => q_lay M4 ∧ (q_At q_m88 (q_WP q_Pr d) P 30 [(0, .inr (.inr 3)), (3, .inr (.inl v3)), (5, .inl (0 : Int))] [] M4 c s))) ∧ ((8 : Int) < v1 → (P (-1 : Int) M2))))) ∧ (x1 = x2 → (P x2 M)))) : q_At q_m88 (q_WP q_Pr d) P 0 [(0, .inr (.inr 3)), (1, .inl x1), (2, .inl x2)] [] M c s := by
  refine s_88_0 ?_
  rw [lk3 hl]
  refine ⟨?_, ?_⟩
  · replace h := h.1
    intro g
    replace h := h g
    refine ⟨rfl, ?_⟩
    refine q_WP_mono _ _ _ _ _ _ (fun v1 M2 hh => ?_) h
    obtain ⟨hlM2, h⟩ := hh
    rw [lk3 hlM2]
    refine ⟨?_, ?_⟩
    · replace h := h.1
      intro g
      replace h := h g
      refine ⟨rfl, ?_⟩
      refine q_WP_mono _ _ _ _ _ _ (fun v3 M4 hh => ?_) h
      obtain ⟨hlM4, h⟩ := hh
      exact h
    · replace h := h.2
      intro g
      replace h := h g
      exact h
  · replace h := h.2
    intro g
    replace h := h g
    exact h
theorem t_88_30 {d : Nat} {P : Int → qM → Prop} {x3 x5 : Int} {M : qM} {c s : Nat} (hl : q_lay M) (h : (((q_nm M 3 9) ≤ x5 → (P (-1 : Int) M)) ∧ (x5 < (q_nm M 3 9) → q_WP q_Pr d 86 [.inr (.inr 3), .inl x5, .inl x5] M (fun v1 M2 => q_lay M2 ∧ ((¬ (q_lc v1 x3) = 0 → (q_At q_m88 (q_WP q_Pr d) P 30 [(0, .inr (.inr 3)), (3, .inr (.inl x3)), (5, .inl (w32 (x5 + 1)))] [] M2 c s)) ∧ ((q_lc v1 x3) = 0 → (P x5 M2))))))) : q_At q_m88 (q_WP q_Pr d) P 30 [(0, .inr (.inr 3)), (3, .inr (.inl x3)), (5, .inl x5)] [] M c s := by
  refine s_88_30 ?_
  rw [lk3 hl]
  refine ⟨rfl, ?_⟩
  refine ⟨?_, ?_⟩
  · replace h := h.1
    intro g
    replace h := h g
    exact h
  · replace h := h.2
    intro g
    replace h := h g
    refine ⟨rfl, ?_⟩
    refine q_WP_mono _ _ _ _ _ _ (fun v1 M2 hh => ?_) h
    obtain ⟨hlM2, h⟩ := hh
    refine ⟨?_, ?_⟩
    · replace h := h.1
      intro g
      replace h := h g
      exact h
    · replace h := h.2
      intro g
      replace h := h g
      exact h
theorem t_89_0 {d : Nat} {P : Int → qM → Prop} {x1 x2 x3 x4 : Int} {M : qM} {c s : Nat} (hl : q_lay M) (h : q_WP q_Pr d 85 [.inr (.inr 3), .inl x1, .inl x2] M (fun v1 M2 => q_lay M2 ∧ q_WP q_Pr d 85 [.inr (.inr 3), .inl x3, .inl x4] M2 (fun v3 M4 => q_lay M4 ∧ ((v1 = v3 → (q_At q_m89 (q_WP q_Pr d) P 25 [(0, .inr (.inr 3)), (1, .inl x1), (2, .inl x2), (3, .inl x3), (4, .inl x4), (5, .inl v1), (6, .inl (0 : Int))] [] M4 c s)) ∧ (¬ v1 = v3 → (P (0 : Int) M4)))))) : q_At q_m89 (q_WP q_Pr d) P 0 [(0, .inr (.inr 3)), (1, .inl x1), (2, .inl x2), (3, .inl x3), (4, .inl x4)] [] M c s := by
  refine s_89_0 ?_
  rw [lk3 hl]
  refine ⟨rfl, ?_⟩
  refine q_WP_mono _ _ _ _ _ _ (fun v1 M2 hh => ?_) h
  obtain ⟨hlM2, h⟩ := hh
  rw [lk3 hlM2]
  refine ⟨rfl, ?_⟩
  refine q_WP_mono _ _ _ _ _ _ (fun v3 M4 hh => ?_) h
  obtain ⟨hlM4, h⟩ := hh
  refine ⟨?_, ?_⟩
  · replace h := h.1
    intro g
    replace h := h g
    exact h
  · replace h := h.2
    intro g
    replace h := h g
    refine ⟨⟨by decide, by decide⟩, ?_⟩
    exact h
theorem t_89_25 {d : Nat} {P : Int → qM → Prop} {x1 x2 x3 x4 x5 x6 : Int} {M : qM} {c s : Nat} (hl : q_lay M) (h : ((x5 ≤ x6 → (P (1 : Int) M)) ∧ (x6 < x5 → q_WP q_Pr d 87 [.inr (.inr 3), .inl x1, .inl x2, .inl x6] M (fun v1 M2 => q_lay M2 ∧ q_WP q_Pr d 87 [.inr (.inr 3), .inl x3, .inl x4, .inl x6] M2 (fun v3 M4 => q_lay M4 ∧ ((v1 = v3 → (q_At q_m89 (q_WP q_Pr d) P 25 [(0, .inr (.inr 3)), (1, .inl x1), (2, .inl x2), (3, .inl x3), (4, .inl x4), (5, .inl x5), (6, .inl (w32 (x6 + 1)))] [] M4 c s)) ∧ (¬ v1 = v3 → (P (0 : Int) M4)))))))) : q_At q_m89 (q_WP q_Pr d) P 25 [(0, .inr (.inr 3)), (1, .inl x1), (2, .inl x2), (3, .inl x3), (4, .inl x4), (5, .inl x5), (6, .inl x6)] [] M c s := by
  refine s_89_25 ?_
  rw [lk3 hl]
  refine ⟨?_, ?_⟩
  · replace h := h.1
    intro g
    replace h := h g
    refine ⟨⟨by decide, by decide⟩, ?_⟩
    exact h
  · replace h := h.2
    intro g
    replace h := h g
    refine ⟨rfl, ?_⟩
    refine q_WP_mono _ _ _ _ _ _ (fun v1 M2 hh => ?_) h
    obtain ⟨hlM2, h⟩ := hh
    rw [lk3 hlM2]
    refine ⟨rfl, ?_⟩
    refine q_WP_mono _ _ _ _ _ _ (fun v3 M4 hh => ?_) h
    obtain ⟨hlM4, h⟩ := hh
    refine ⟨?_, ?_⟩
    · replace h := h.1
      intro g
      replace h := h g
      exact h
    · replace h := h.2
      intro g
      replace h := h g
      refine ⟨⟨by decide, by decide⟩, ?_⟩
      exact h
theorem t_90_0 {d : Nat} {P : Int → qM → Prop} {x1 x2 x3 : Int} {M : qM} {c s : Nat} (hl : q_lay M) (h : q_WP q_Pr (d + 1) 85 [.inr (.inr 3), .inl x2, .inl x3] M (fun v1 M2 => q_lay M2 ∧ ((0 ≤ x1 ∧ x1 < 30) ∧ ((0 ≤ x1 ∧ x1 < 30) ∧ (q_At q_m90 (q_WP q_Pr (d + 1)) P 40 [(0, .inr (.inr 3)), (1, .inl x1), (2, .inl x2), (3, .inl x3), (5, .inl (min v1 (q_nm M2 5 x1))), (6, .inl (w32 ((max v1 (q_nm M2 5 x1)) - (min v1 (q_nm M2 5 x1))))), (7, .inl (0 : Int))] [] M2 c s))))) : q_At q_m90 (q_WP q_Pr (d + 1)) P 0 [(0, .inr (.inr 3)), (1, .inl x1), (2, .inl x2), (3, .inl x3)] [] M c s := by
  refine s_90_0 ?_
  rw [lk3 hl]
  refine ⟨rfl, ?_⟩
  refine q_WP_mono _ _ _ _ _ _ (fun v1 M2 hh => ?_) h
  obtain ⟨hlM2, h⟩ := hh
  rw [lk3 hlM2, lr3_1 hlM2, ll5 hlM2, lk5 hlM2]
  refine ⟨rfl, ?_⟩
  refine ⟨⟨rfl, h.1⟩, ?_⟩
  replace h := h.2
  refine p_260 ?_
  rw [lk3 hlM2, lr3_1 hlM2, ll5 hlM2, lk5 hlM2]
  refine ⟨rfl, ?_⟩
  refine ⟨⟨rfl, h.1⟩, ?_⟩
  replace h := h.2
  refine p_258 ?_
  exact h
theorem t_90_40 {d : Nat} {P : Int → qM → Prop} {x1 x2 x3 x5 x6 x7 : Int} {M : qM} {c s : Nat} (hl : q_lay M) (h : ((x5 ≤ x7 → (P x6 M)) ∧ (x7 < x5 → (((0 ≤ x1 ∧ x1 < 30) ∧ 0 ≤ x7 ∧ x7 < 8) ∧ q_WP q_Pr (d + 1) 87 [.inr (.inr 3), .inl x2, .inl x3, .inl x7] M (fun v3 M4 => q_lay M4 ∧ (((q_nm M 4 (x1 * 8 + x7)) = v3 → (q_At q_m90 (q_WP q_Pr (d + 1)) P 40 [(0, .inr (.inr 3)), (1, .inl x1), (2, .inl x2), (3, .inl x3), (5, .inl x5), (6, .inl x6), (7, .inl (w32 (x7 + 1)))] [] M4 c s)) ∧ (¬ (q_nm M 4 (x1 * 8 + x7)) = v3 → (q_At q_m90 (q_WP q_Pr (d + 1)) P 40 [(0, .inr (.inr 3)), (1, .inl x1), (2, .inl x2), (3, .inl x3), (5, .inl x5), (6, .inl (w32 (x6 + 1))), (7, .inl (w32 (x7 + 1)))] [] M4 c s)))))))) : q_At q_m90 (q_WP q_Pr (d + 1)) P 40 [(0, .inr (.inr 3)), (1, .inl x1), (2, .inl x2), (3, .inl x3), (5, .inl x5), (6, .inl x6), (7, .inl x7)] [] M c s := by
  refine s_90_40 ?_
  rw [lk3 hl]
  refine ⟨?_, ?_⟩
  · replace h := h.1
    intro g
    replace h := h g
    exact h
  · replace h := h.2
    intro g
    replace h := h g
    refine ⟨rfl, ?_⟩
    refine p_84 hl h.1 ?_
    replace h := h.2
    rw [lk3 hl]
    refine ⟨rfl, ?_⟩
    refine q_WP_mono _ _ _ _ _ _ (fun v3 M4 hh => ?_) h
    obtain ⟨hlM4, h⟩ := hh
    refine ⟨?_, ?_⟩
    · replace h := h.1
      intro g
      replace h := h g
      exact h
    · replace h := h.2
      intro g
      replace h := h g
      exact h
theorem t_91_0 {d : Nat} {P : Int → qM → Prop} {x1 x2 : Int} {M : qM} {c s : Nat} (hl : q_lay M) (h : ((0 ≤ x1 ∧ x1 < 30) ∧ ((0 ≤ x2 ∧ x2 < 30) ∧ (((q_lc (q_nm M 10 x1) (q_nm M 10 x2)) = 0 → (P (0 : Int) M)) ∧ (¬ (q_lc (q_nm M 10 x1) (q_nm M 10 x2)) = 0 → (P (1 : Int) M)))))) : q_At q_m91 (q_WP q_Pr d) P 0 [(0, .inr (.inr 3)), (1, .inl x1), (2, .inl x2)] [] M c s := by
  refine s_91_0 ?_
  rw [lk3 hl, lr3_6 hl, ll10 hl, lk10 hl]
  refine ⟨rfl, ?_⟩
  refine ⟨⟨rfl, h.1⟩, ?_⟩
  replace h := h.2
  refine ⟨rfl, ?_⟩
  refine ⟨⟨rfl, h.1⟩, ?_⟩
  replace h := h.2
  refine ⟨?_, ?_⟩
  · replace h := h.1
    intro g
    replace h := h g
    refine ⟨⟨by decide, by decide⟩, ?_⟩
    exact h
  · replace h := h.2
    intro g
    replace h := h g
    refine ⟨⟨by decide, by decide⟩, ?_⟩
    exact h
theorem t_92_0 {d : Nat} {P : Int → qM → Prop} {x1 x2 : Int} {M : qM} {c s : Nat} (hl : q_lay M) (h : ((x1 = x2 → (P (0 : Int) M)) ∧ (¬ x1 = x2 → ((0 ≤ x1 ∧ x1 < 30) ∧ ((0 ≤ x2 ∧ x2 < 30) ∧ ((¬ (q_nm M 7 x1) = (q_nm M 7 x2) → (P (0 : Int) M)) ∧ ((q_nm M 7 x1) = (q_nm M 7 x2) → ((0 ≤ x1 ∧ x1 < 30) ∧ ((0 ≤ x2 ∧ x2 < 30) ∧ ((¬ (q_nm M 8 x1) = (q_nm M 8 x2) → (P (0 : Int) M)) ∧ ((q_nm M 8 x1) = (q_nm M 8 x2) → (P (1 : Int) M)))))))))))) : q_At q_m92 (q_WP q_Pr d) P 0 [(0, .inr (.inr 3)), (1, .inl x1), (2, .inl x2)] [] M c s := by
  refine s_92_0 ?_
  rw [lk3 hl, lr3_3 hl, ll7 hl, lk7 hl, lr3_4 hl, ll8 hl, lk8 hl]
  refine ⟨?_, ?_⟩
  · replace h := h.1
    intro g
    replace h := h g
    refine ⟨⟨by decide, by decide⟩, ?_⟩
    exact h
  · replace h := h.2
    intro g
    replace h := h g
    refine ⟨rfl, ?_⟩
    refine ⟨⟨rfl, h.1⟩, ?_⟩
    replace h := h.2
    refine ⟨rfl, ?_⟩
    refine ⟨⟨rfl, h.1⟩, ?_⟩
    replace h := h.2
    refine ⟨?_, ?_⟩
    · replace h := h.1
      intro g
      replace h := h g
      refine ⟨⟨by decide, by decide⟩, ?_⟩
      exact h
    · replace h := h.2
      intro g
      replace h := h g
      refine ⟨rfl, ?_⟩
      refine ⟨⟨rfl, h.1⟩, ?_⟩
      replace h := h.2
      refine ⟨rfl, ?_⟩
      refine ⟨⟨rfl, h.1⟩, ?_⟩
      replace h := h.2
      refine ⟨?_, ?_⟩
      · replace h := h.1
        intro g
        replace h := h g
        refine ⟨⟨by decide, by decide⟩, ?_⟩
        exact h
      · replace h := h.2
        intro g
        replace h := h g
        refine ⟨⟨by decide, by decide⟩, ?_⟩
        exact h
theorem t_93_0 {d : Nat} {P : Int → qM → Prop} {x1 x2 : Int} {M : qM} {c s : Nat} (hl : q_lay M) (h : ((0 ≤ x1 ∧ x1 < 30) ∧ ((0 ≤ x2 ∧ x2 < 30) ∧ (((q_lc (q_nm M 11 x1) (q_nm M 11 x2)) = 0 → (P (0 : Int) M)) ∧ (¬ (q_lc (q_nm M 11 x1) (q_nm M 11 x2)) = 0 → q_WP q_Pr d 85 [.inr (.inr 3), .inl x1, .inl x2] M (fun v1 M2 => q_lay M2 ∧ ((v1 ≤ 0 → (P (0 : Int) M2)) ∧ (0 < v1 → (P (1 : Int) M2))))))))) : q_At q_m93 (q_WP q_Pr d) P 0 [(0, .inr (.inr 3)), (1, .inl x1), (2, .inl x2)] [] M c s := by
  refine s_93_0 ?_
  rw [lk3 hl, lr3_7 hl, ll11 hl, lk11 hl]
  refine ⟨rfl, ?_⟩
  refine ⟨⟨rfl, h.1⟩, ?_⟩
  replace h := h.2
  refine ⟨rfl, ?_⟩
  refine ⟨⟨rfl, h.1⟩, ?_⟩
  replace h := h.2
  refine ⟨?_, ?_⟩
  · replace h := h.1
    intro g
    replace h := h g
    refine ⟨⟨by decide, by decide⟩, ?_⟩
    exact h
  · replace h := h.2
    intro g
    replace h := h g
    refine ⟨rfl, ?_⟩
    refine q_WP_mono _ _ _ _ _ _ (fun v1 M2 hh => ?_) h
    obtain ⟨hlM2, h⟩ := hh
    refine ⟨?_, ?_⟩
    · replace h := h.1
      intro g
      replace h := h g
      refine ⟨⟨by decide, by decide⟩, ?_⟩
      exact h
    · replace h := h.2
      intro g
      replace h := h g
      refine ⟨⟨by decide, by decide⟩, ?_⟩
      exact h
theorem t_94_0 {d : Nat} {P : Int → qM → Prop} {x1 : Int} {M : qM} {c s : Nat} (hl : q_lay M) (h : ((0 ≤ x1 ∧ x1 < 30) ∧ (((q_nm M 6 x1) ≤ 0 → (P (0 : Int) M)) ∧ (0 < (q_nm M 6 x1) → ((0 ≤ x1 ∧ x1 < 30) ∧ ((0 ≤ x1 ∧ x1 < 30) ∧ (((q_nm M 5 x1) ≤ (q_nm M 6 x1) → (P (0 : Int) M)) ∧ ((q_nm M 6 x1) < (q_nm M 5 x1) → (P (1 : Int) M))))))))) : q_At q_m94 (q_WP q_Pr d) P 0 [(0, .inr (.inr 3)), (1, .inl x1)] [] M c s := by
  refine s_94_0 ?_
  rw [lk3 hl, lr3_2 hl, ll6 hl, lk6 hl, lr3_1 hl, ll5 hl, lk5 hl]
  refine ⟨rfl, ?_⟩
  refine ⟨⟨rfl, h.1⟩, ?_⟩
  replace h := h.2
  refine ⟨?_, ?_⟩
  · replace h := h.1
    intro g
    replace h := h g
    refine ⟨⟨by decide, by decide⟩, ?_⟩
    exact h
  · replace h := h.2
    intro g
    replace h := h g
    refine ⟨rfl, ?_⟩
    refine ⟨⟨rfl, h.1⟩, ?_⟩
    replace h := h.2
    refine ⟨rfl, ?_⟩
    refine ⟨⟨rfl, h.1⟩, ?_⟩
    replace h := h.2
    refine ⟨?_, ?_⟩
    · replace h := h.1
      intro g
      replace h := h g
      refine ⟨⟨by decide, by decide⟩, ?_⟩
      exact h
    · replace h := h.2
      intro g
      replace h := h g
      refine ⟨⟨by decide, by decide⟩, ?_⟩
      exact h
theorem t_95_0 {d : Nat} {P : Int → qM → Prop} {x1 x2 : Int} {M : qM} {c s : Nat} (hl : q_lay M) (h : ((0 ≤ x1 ∧ x1 < 30) ∧ ((0 ≤ x2 ∧ x2 < 30) ∧ ((x1 = x2 → (P (0 : Int) M)) ∧ (¬ x1 = x2 → ((0 ≤ x1 ∧ x1 < 30) ∧ ((0 ≤ x2 ∧ x2 < 30) ∧ ((¬ (q_nm M 7 x1) = (q_nm M 7 x2) → (P (0 : Int) M)) ∧ ((q_nm M 7 x1) = (q_nm M 7 x2) → (((w32 ((q_nm M 5 x1) - (q_nm M 5 x2))) < (-1 : Int) → (P (0 : Int) M)) ∧ ((-1 : Int) ≤ (w32 ((q_nm M 5 x1) - (q_nm M 5 x2))) → (((w32 ((q_nm M 5 x1) - (q_nm M 5 x2))) ≤ (1 : Int) → ((0 ≤ x1 ∧ x1 < 30) ∧ ((0 ≤ x2 ∧ x2 < 30) ∧ (q_At q_m95 (q_WP q_Pr (d + 1)) P 66 [(0, .inr (.inr 3)), (1, .inl x1), (2, .inl x2), (3, .inl (w32 ((q_nm M 5 x1) - (q_nm M 5 x2)))), (4, .inl (0 : Int)), (5, .inl (min (q_nm M 5 x1) (q_nm M 5 x2)))] [] M c s)))) ∧ ((1 : Int) < (w32 ((q_nm M 5 x1) - (q_nm M 5 x2))) → (P (0 : Int) M)))))))))))))) : q_At q_m95 (q_WP q_Pr (d + 1)) P 0 [(0, .inr (.inr 3)), (1, .inl x1), (2, .inl x2)] [] M c s := by
  refine s_95_0 ?_
  rw [lk3 hl, lr3_1 hl, ll5 hl, lk5 hl, lr3_3 hl, ll7 hl, lk7 hl]
  refine ⟨rfl, ?_⟩
  refine ⟨⟨rfl, h.1⟩, ?_⟩
  replace h := h.2
  refine ⟨rfl, ?_⟩
  refine ⟨⟨rfl, h.1⟩, ?_⟩
  replace h := h.2
  refine ⟨?_, ?_⟩
  · replace h := h.1
    intro g
    replace h := h g
    refine ⟨⟨by decide, by decide⟩, ?_⟩
    exact h
  · replace h := h.2
    intro g
    replace h := h g
    refine ⟨rfl, ?_⟩
    refine ⟨⟨rfl, h.1⟩, ?_⟩
    replace h := h.2
    refine ⟨rfl, ?_⟩
    refine ⟨⟨rfl, h.1⟩, ?_⟩
    replace h := h.2
    refine ⟨?_, ?_⟩
    · replace h := h.1
      intro g
      replace h := h g
      refine ⟨⟨by decide, by decide⟩, ?_⟩
      exact h
    · replace h := h.2
      intro g
      replace h := h g
      refine ⟨?_, ?_⟩
      · replace h := h.1
        intro g
        replace h := h g
        refine ⟨⟨by decide, by decide⟩, ?_⟩
        exact h
      · replace h := h.2
        intro g
        replace h := h g
        refine ⟨?_, ?_⟩
        · replace h := h.1
          intro g
          replace h := h g
          refine ⟨rfl, ?_⟩
          refine ⟨⟨rfl, h.1⟩, ?_⟩
          replace h := h.2
          refine ⟨rfl, ?_⟩
          refine ⟨⟨rfl, h.1⟩, ?_⟩
          replace h := h.2
          refine p_260 ?_
          exact h
        · replace h := h.2
          intro g
          replace h := h g
          refine ⟨⟨by decide, by decide⟩, ?_⟩
          exact h
theorem t_95_66 {d : Nat} {P : Int → qM → Prop} {x1 x2 x3 x4 x5 : Int} {M : qM} {c s : Nat} (hl : q_lay M) (h : ((x5 ≤ x4 → ((x3 < 0 → ((0 < x3 → (q_At q_m95 (q_WP q_Pr (d + 1)) P 126 [(0, .inr (.inr 3)), (1, .inl x1), (2, .inl x2), (6, .inl x4), (7, .inl x4)] [] M c s)) ∧ (x3 ≤ 0 → (q_At q_m95 (q_WP q_Pr (d + 1)) P 126 [(0, .inr (.inr 3)), (1, .inl x1), (2, .inl x2), (6, .inl x4), (7, .inl (w32 (x4 + (1 : Int))))] [] M c s)))) ∧ (0 ≤ x3 → ((0 < x3 → (q_At q_m95 (q_WP q_Pr (d + 1)) P 126 [(0, .inr (.inr 3)), (1, .inl x1), (2, .inl x2), (6, .inl (w32 (x4 + (1 : Int)))), (7, .inl x4)] [] M c s)) ∧ (x3 ≤ 0 → (q_At q_m95 (q_WP q_Pr (d + 1)) P 126 [(0, .inr (.inr 3)), (1, .inl x1), (2, .inl x2), (6, .inl (w32 (x4 + (1 : Int)))), (7, .inl (w32 (x4 + (1 : Int))))] [] M c s)))))) ∧ (x4 < x5 → (((0 ≤ x1 ∧ x1 < 30) ∧ 0 ≤ x4 ∧ x4 < 8) ∧ (((0 ≤ x2 ∧ x2 < 30) ∧ 0 ≤ x4 ∧ x4 < 8) ∧ ((¬ (q_nm M 4 (x1 * 8 + x4)) = (q_nm M 4 (x2 * 8 + x4)) → ((x3 < 0 → ((0 < x3 → (q_At q_m95 (q_WP q_Pr (d + 1)) P 126 [(0, .inr (.inr 3)), (1, .inl x1), (2, .inl x2), (6, .inl x4), (7, .inl x4)] [] M c s)) ∧ (x3 ≤ 0 → (q_At q_m95 (q_WP q_Pr (d + 1)) P 126 [(0, .inr (.inr 3)), (1, .inl x1), (2, .inl x2), (6, .inl x4), (7, .inl (w32 (x4 + (1 : Int))))] [] M c s)))) ∧ (0 ≤ x3 → ((0 < x3 → (q_At q_m95 (q_WP q_Pr (d + 1)) P 126 [(0, .inr (.inr 3)), (1, .inl x1), (2, .inl x2), (6, .inl (w32 (x4 + (1 : Int)))), (7, .inl x4)] [] M c s)) ∧ (x3 ≤ 0 → (q_At q_m95 (q_WP q_Pr (d + 1)) P 126 [(0, .inr (.inr 3)), (1, .inl x1), (2, .inl x2), (6, .inl (w32 (x4 + (1 : Int)))), (7, .inl (w32 (x4 + (1 : Int))))] [] M c s)))))) ∧ ((q_nm M 4 (x1 * 8 + x4)) = (q_nm M 4 (x2 * 8 + x4)) → (q_At q_m95 (q_WP q_Pr (d + 1)) P 66 [(0, .inr (.inr 3)), (1, .inl x1), (2, .inl x2), (3, .inl x3), (4, .inl (w32 (x4 + 1))), (5, .inl x5)] [] M c s)))))))) : q_At q_m95 (q_WP q_Pr (d + 1)) P 66 [(0, .inr (.inr 3)), (1, .inl x1), (2, .inl x2), (3, .inl x3), (4, .inl x4), (5, .inl x5)] [] M c s := by
  refine s_95_66 ?_
  rw [lk3 hl]
  refine ⟨?_, ?_⟩
  · replace h := h.1
    intro g
    replace h := h g
    refine ⟨?_, ?_⟩
    · replace h := h.1
      intro g
      replace h := h g
      refine ⟨?_, ?_⟩
      · replace h := h.1
        intro g
        replace h := h g
        exact h
      · replace h := h.2
        intro g
        replace h := h g
        exact h
    · replace h := h.2
      intro g
      replace h := h g
      refine ⟨?_, ?_⟩
      · replace h := h.1
        intro g
        replace h := h g
        exact h
      · replace h := h.2
        intro g
        replace h := h g
        exact h
  · replace h := h.2
    intro g
    replace h := h g
    refine ⟨rfl, ?_⟩
    refine p_84 hl h.1 ?_
    replace h := h.2
    rw [lk3 hl]
    refine ⟨rfl, ?_⟩
    refine p_84 hl h.1 ?_
    replace h := h.2
    refine ⟨?_, ?_⟩
    · replace h := h.1
      intro g
      replace h := h g
      refine ⟨?_, ?_⟩
      · replace h := h.1
        intro g
        replace h := h g
        refine ⟨?_, ?_⟩
        · replace h := h.1
          intro g
          replace h := h g
          exact h
        · replace h := h.2
          intro g
          replace h := h g
          exact h
      · replace h := h.2
        intro g
        replace h := h g
        refine ⟨?_, ?_⟩
        · replace h := h.1
          intro g
          replace h := h g
          exact h
        · replace h := h.2
          intro g
          replace h := h g
          exact h
    · replace h := h.2
      intro g
      replace h := h g
      exact h
theorem t_95_126 {d : Nat} {P : Int → qM → Prop} {x1 x2 x6 x7 : Int} {M : qM} {c s : Nat} (hl : q_lay M) (h : ((0 ≤ x1 ∧ x1 < 30) ∧ (((q_nm M 5 x1) ≤ x6 → (P (1 : Int) M)) ∧ (x6 < (q_nm M 5 x1) → ((0 ≤ x2 ∧ x2 < 30) ∧ (((q_nm M 5 x2) ≤ x7 → (P (1 : Int) M)) ∧ (x7 < (q_nm M 5 x2) → (((0 ≤ x1 ∧ x1 < 30) ∧ 0 ≤ x6 ∧ x6 < 8) ∧ (((0 ≤ x2 ∧ x2 < 30) ∧ 0 ≤ x7 ∧ x7 < 8) ∧ (((q_nm M 4 (x1 * 8 + x6)) = (q_nm M 4 (x2 * 8 + x7)) → (q_At q_m95 (q_WP q_Pr (d + 1)) P 126 [(0, .inr (.inr 3)), (1, .inl x1), (2, .inl x2), (6, .inl (w32 (x6 + 1))), (7, .inl (w32 (x7 + 1)))] [] M c s)) ∧ (¬ (q_nm M 4 (x1 * 8 + x6)) = (q_nm M 4 (x2 * 8 + x7)) → (P (0 : Int) M)))))))))))) : q_At q_m95 (q_WP q_Pr (d + 1)) P 126 [(0, .inr (.inr 3)), (1, .inl x1), (2, .inl x2), (6, .inl x6), (7, .inl x7)] [] M c s := by
  refine s_95_126 ?_
  rw [lk3 hl, lr3_1 hl, ll5 hl, lk5 hl]
  refine ⟨rfl, ?_⟩
  refine ⟨⟨rfl, h.1⟩, ?_⟩
  replace h := h.2
  refine ⟨?_, ?_⟩
  · replace h := h.1
    intro g
    replace h := h g
    refine ⟨⟨by decide, by decide⟩, ?_⟩
    exact h
  · replace h := h.2
    intro g
    replace h := h g
    refine ⟨rfl, ?_⟩
    refine ⟨⟨rfl, h.1⟩, ?_⟩
    replace h := h.2
    refine ⟨?_, ?_⟩
    · replace h := h.1
      intro g
      replace h := h g
      refine ⟨⟨by decide, by decide⟩, ?_⟩
      exact h
    · replace h := h.2
      intro g
      replace h := h g
      refine ⟨rfl, ?_⟩
      refine p_84 hl h.1 ?_
      replace h := h.2
      rw [lk3 hl]
      refine ⟨rfl, ?_⟩
      refine p_84 hl h.1 ?_
      replace h := h.2
      refine ⟨?_, ?_⟩
      · replace h := h.1
        intro g
        replace h := h g
        exact h
      · replace h := h.2
        intro g
        replace h := h g
        refine ⟨⟨by decide, by decide⟩, ?_⟩
        exact h
end
