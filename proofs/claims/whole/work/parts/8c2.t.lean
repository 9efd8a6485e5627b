section
theorem t_217_0 {d : Nat} {P : Int → qM → Prop} {x1 x2 x3 : Int} {M : qM} {c s : Nat} (hl : q_lay M) (h : ((0 ≤ q_nm M 66 40 ∧ q_nm M 66 40 ≤ 12) ∧ ((0 ≤ x1 ∧ x1 < q_nm M 66 40 → (((0 ≤ x3 ∧ x3 ≤ 3) ∧ ¬ q_nm M 100 x3 = 0 → q_WP q_Pr (d + 2) 215 [.inr (.inr 66), .inl x1, .inl x3] M (fun v5 M6 => q_lay M6 ∧ ((¬ x2 = (-1 : Int) → (((0 : Int) ≤ x2 ∧ x2 ≤ (w32 ((q_nm M6 66 55) - (1 : Int))) → ((0 ≤ x2 ∧ x2 < 640) ∧ (P (q_nm M6 118 x2) M6))) ∧ (¬ ((0 : Int) ≤ x2 ∧ x2 ≤ (w32 ((q_nm M6 66 55) - (1 : Int)))) → (P (-1 : Int) M6)))) ∧ (x2 = (-1 : Int) → (P v5 M6))))) ∧ (¬ ((0 ≤ x3 ∧ x3 ≤ 3) ∧ ¬ q_nm M 100 x3 = 0) → (P (-1 : Int) M)))) ∧ (¬ (0 ≤ x1 ∧ x1 < q_nm M 66 40) → (P (-1 : Int) M))))) : q_At q_m217 (q_WP q_Pr (d + 2)) P 0 [(0, .inr (.inr 66)), (1, .inl x1), (2, .inl x2), (3, .inl x3)] [] M c s := by
  refine s_217_0 ?_
  rw [lk66 hl]
  refine ⟨rfl, ?_⟩
  refine p_164 hl h.1 (fun g => ?_) (fun g => ?_)
  · replace h := h.2.1 g
    rw [lk66 hl]
    refine ⟨fun g => absurd g (by decide), fun _ => ?_⟩
    refine ⟨rfl, ?_⟩
    refine p_216 hl (fun g => ?_) (fun g => ?_)
    · replace h := h.1 g
      rw [lk66 hl]
      refine ⟨fun _ => ?_, fun g => absurd g (by decide)⟩
      refine ⟨rfl, ?_⟩
      refine q_WP_mono _ _ _ _ _ _ (fun v5 M6 hh => ?_) h
      obtain ⟨hlM6, h⟩ := hh
      rw [lk66 hlM6]
      refine ⟨?_, ?_⟩
      · replace h := h.1
        intro g
        replace h := h g
        refine ⟨rfl, ?_⟩
        refine p_146 (fun g => ?_) (fun g => ?_)
        · replace h := h.1 g
          rw [lk66 hlM6, lr66_70 hlM6, ll118 hlM6, lk118 hlM6]
          refine ⟨fun g => absurd g (by decide), fun _ => ?_⟩
          refine ⟨rfl, ?_⟩
          refine ⟨⟨rfl, h.1⟩, ?_⟩
          replace h := h.2
          exact h
        · replace h := h.2 g
          rw [lk66 hlM6, lr66_70 hlM6, ll118 hlM6, lk118 hlM6]
          refine ⟨fun _ => ?_, fun g => absurd g (by decide)⟩
          exact h
      · replace h := h.2
        intro g
        replace h := h g
        exact h
    · replace h := h.2 g
      rw [lk66 hl]
      refine ⟨fun g => absurd g (by decide), fun _ => ?_⟩
      exact h
  · replace h := h.2.2 g
    rw [lk66 hl]
    refine ⟨fun _ => ?_, fun g => absurd g (by decide)⟩
    exact h
theorem t_218_0 {d : Nat} {P : Int → qM → Prop} {x1 : Int} {M : qM} {c s : Nat} (hl : q_lay M) (h : ((0 ≤ x1 ∧ x1 < 640) ∧ (∀ M1 : qM, M1 = q_wn M 66 71 (q_nm M 112 x1) → q_lay M1 → (q_At q_m218 (q_WP q_Pr d) P 12 [(0, .inr (.inr 66)), (1, .inl x1), (2, .inl (0 : Int))] [] M1 c s)))) : q_At q_m218 (q_WP q_Pr d) P 0 [(0, .inr (.inr 66)), (1, .inl x1)] [] M c s := by
  refine s_218_0 ?_
  rw [lk66 hl, lr66_61 hl, ll112 hl, lk112 hl]
  refine ⟨rfl, ?_⟩
  refine ⟨⟨rfl, h.1⟩, ?_⟩
  replace h := h.2
  refine ⟨rfl, ?_⟩
  intro M1
  have hlM1 : q_lay M1 := q_lay_wn hl
  replace h := h M1 rfl hlM1
  exact h
theorem t_218_12 {d : Nat} {P : Int → qM → Prop} {x1 x2 : Int} {M : qM} {c s : Nat} (hl : q_lay M) (h : (((q_nm M 66 71) ≤ x2 → (P (q_nm M 66 71) M)) ∧ (x2 < (q_nm M 66 71) → ((0 ≤ (w32 ((w32 ((104 : Int) * x1)) + x2)) ∧ (w32 ((w32 ((104 : Int) * x1)) + x2)) < 66560) ∧ ((0 ≤ x2 ∧ x2 < 104) ∧ (∀ M1 : qM, M1 = q_wn M 119 x2 (q_nm M 111 (w32 ((w32 ((104 : Int) * x1)) + x2))) → q_lay M1 → (q_At q_m218 (q_WP q_Pr d) P 12 [(0, .inr (.inr 66)), (1, .inl x1), (2, .inl (w32 (x2 + 1)))] [] M1 c s))))))) : q_At q_m218 (q_WP q_Pr d) P 12 [(0, .inr (.inr 66)), (1, .inl x1), (2, .inl x2)] [] M c s := by
  refine s_218_12 ?_
  rw [lk66 hl, lr66_60 hl, ll111 hl, lk111 hl, lr66_72 hl, ll119 hl, lk119 hl]
  refine ⟨rfl, ?_⟩
  refine ⟨?_, ?_⟩
  · replace h := h.1
    intro g
    replace h := h g
    refine ⟨rfl, ?_⟩
    exact h
  · replace h := h.2
    intro g
    replace h := h g
    refine ⟨rfl, ?_⟩
    refine ⟨rfl, ?_⟩
    refine ⟨⟨rfl, h.1⟩, ?_⟩
    replace h := h.2
    refine ⟨⟨⟨by decide, rfl⟩, h.1⟩, ?_⟩
    replace h := h.2
    intro M1
    have hlM1 : q_lay M1 := q_lay_wn hl
    replace h := h M1 rfl hlM1
    exact h
theorem t_219_0 {d : Nat} {P : Int → qM → Prop} {x1 x2 : Int} {M : qM} {c s : Nat} (hl : q_lay M) (h : q_WP q_Pr d 202 [.inr (.inr 66), .inl x1, .inl x2] M (fun v1 M2 => q_lay M2 ∧ ((v1 = 0 → (P (-1 : Int) M2)) ∧ (¬ v1 = 0 → q_WP q_Pr d 218 [.inr (.inr 66), .inl x2] M2 (fun v3 M4 => q_lay M4 ∧ (P v3 M4)))))) : q_At q_m219 (q_WP q_Pr d) P 0 [(0, .inr (.inr 66)), (1, .inl x1), (2, .inl x2)] [] M c s := by
  refine s_219_0 ?_
  rw [lk66 hl]
  refine ⟨rfl, ?_⟩
  refine q_WP_mono _ _ _ _ _ _ (fun v1 M2 hh => ?_) h
  obtain ⟨hlM2, h⟩ := hh
  rw [lk66 hlM2]
  refine ⟨?_, ?_⟩
  · replace h := h.1
    intro g
    replace h := h g
    exact h
  · replace h := h.2
    intro g
    replace h := h g
    refine ⟨rfl, ?_⟩
    refine q_WP_mono _ _ _ _ _ _ (fun v3 M4 hh => ?_) h
    obtain ⟨hlM4, h⟩ := hh
    exact h
theorem t_220_0 {d : Nat} {P : Int → qM → Prop} {x1 x2 x3 : Int} {M : qM} {c s : Nat} (hl : q_lay M) (h : ((0 ≤ q_nm M 66 40 ∧ q_nm M 66 40 ≤ 12) ∧ ((0 ≤ x1 ∧ x1 < q_nm M 66 40 → (((0 ≤ x2 ∧ x2 ≤ 3) ∧ ¬ q_nm M 100 x2 = 0 → ((0 ≤ x3 → q_WP q_Pr (d + 2) 215 [.inr (.inr 66), .inl x1, .inl x2] M (fun v5 M6 => q_lay M6 ∧ ((¬ v5 = 0 → ((v5 ≠ 0) ∧ (q_At q_m220 (q_WP q_Pr (d + 2)) P 69 [(0, .inr (.inr 66)), (7, .inl (w32 (Int.tmod (w64 (Int.tdiv (Int.tmod (w64 ((w64 ((1103515245 : Int) * x3)) + (12345 : Int))) (2147483648 : Int)) (256 : Int))) v5))), (8, .inl (0 : Int))] [] M6 c s))) ∧ (v5 = 0 → (P (-1 : Int) M6))))) ∧ (x3 < 0 → (P (-1 : Int) M)))) ∧ (¬ ((0 ≤ x2 ∧ x2 ≤ 3) ∧ ¬ q_nm M 100 x2 = 0) → (P (-1 : Int) M)))) ∧ (¬ (0 ≤ x1 ∧ x1 < q_nm M 66 40) → (P (-1 : Int) M))))) : q_At q_m220 (q_WP q_Pr (d + 2)) P 0 [(0, .inr (.inr 66)), (1, .inl x1), (2, .inl x2), (3, .inl x3)] [] M c s := by
  refine s_220_0 ?_
  rw [lk66 hl]
  refine ⟨rfl, ?_⟩
  refine p_164 hl h.1 (fun g => ?_) (fun g => ?_)
  · replace h := h.2.1 g
    rw [lk66 hl]
    refine ⟨fun g => absurd g (by decide), fun _ => ?_⟩
    refine ⟨rfl, ?_⟩
    refine p_216 hl (fun g => ?_) (fun g => ?_)
    · replace h := h.1 g
      rw [lk66 hl]
      refine ⟨fun g => absurd g (by decide), fun _ => ?_⟩
      refine ⟨?_, ?_⟩
      · replace h := h.1
        intro g
        replace h := h g
        refine ⟨rfl, ?_⟩
        refine q_WP_mono _ _ _ _ _ _ (fun v5 M6 hh => ?_) h
        obtain ⟨hlM6, h⟩ := hh
        refine ⟨?_, ?_⟩
        · replace h := h.1
          intro g
          replace h := h g
          refine ⟨by decide, ?_⟩
          refine ⟨by decide, ?_⟩
          refine ⟨h.1, ?_⟩
          replace h := h.2
          exact h
        · replace h := h.2
          intro g
          replace h := h g
          exact h
      · replace h := h.2
        intro g
        replace h := h g
        exact h
    · replace h := h.2 g
      rw [lk66 hl]
      refine ⟨fun _ => ?_, fun g => absurd g (by decide)⟩
      exact h
  · replace h := h.2.2 g
    rw [lk66 hl]
    refine ⟨fun _ => ?_, fun g => absurd g (by decide)⟩
    exact h
theorem t_220_69 {d : Nat} {P : Int → qM → Prop} {x7 x8 : Int} {M : qM} {c s : Nat} (hl : q_lay M) (h : ((0 ≤ x8 ∧ x8 < 640) ∧ ((x7 < (q_nm M 118 x8) → q_WP q_Pr d 218 [.inr (.inr 66), .inl x8] M (fun v1 M2 => q_lay M2 ∧ (P x8 M2))) ∧ ((q_nm M 118 x8) ≤ x7 → ((0 ≤ x8 ∧ x8 < 640) ∧ (q_At q_m220 (q_WP q_Pr d) P 69 [(0, .inr (.inr 66)), (7, .inl (w32 (x7 - (q_nm M 118 x8)))), (8, .inl (w32 (x8 + 1)))] [] M c s)))))) : q_At q_m220 (q_WP q_Pr d) P 69 [(0, .inr (.inr 66)), (7, .inl x7), (8, .inl x8)] [] M c s := by
  refine s_220_69 ?_
  rw [lk66 hl, lr66_70 hl, ll118 hl, lk118 hl]
  refine ⟨rfl, ?_⟩
  refine ⟨⟨rfl, h.1⟩, ?_⟩
  replace h := h.2
  refine ⟨?_, ?_⟩
  · replace h := h.1
    intro g
    replace h := h g
    refine ⟨rfl, ?_⟩
    refine q_WP_mono _ _ _ _ _ _ (fun v1 M2 hh => ?_) h
    obtain ⟨hlM2, h⟩ := hh
    exact h
  · replace h := h.2
    intro g
    replace h := h g
    refine ⟨rfl, ?_⟩
    refine ⟨⟨rfl, h.1⟩, ?_⟩
    replace h := h.2
    exact h
theorem t_221_0 {d : Nat} {P : Int → qM → Prop} {M : qM} {c s : Nat} (hl : q_lay M) (h : (∀ M1 : qM, M1 = q_wn M 66 1 (0 : Int) → q_lay M1 → (((1 : Int) ≤ (q_nm M 66 1) ∧ (q_nm M 66 1) ≤ (100 : Int) → (q_At q_m221 (q_WP q_Pr (d + 1)) P 26 [(0, .inr (.inr 66)), (1, .inl (q_nm M 66 1)), (2, .inl (0 : Int))] [] M1 c s)) ∧ (¬ ((1 : Int) ≤ (q_nm M 66 1) ∧ (q_nm M 66 1) ≤ (100 : Int)) → (P (0 : Int) M1))))) : q_At q_m221 (q_WP q_Pr (d + 1)) P 0 [(0, .inr (.inr 66))] [] M c s := by
  refine s_221_0 ?_
  rw [lk66 hl]
  refine ⟨rfl, ?_⟩
  refine ⟨rfl, ?_⟩
  intro M1
  have hlM1 : q_lay M1 := q_lay_wn hl
  replace h := h M1 rfl hlM1
  refine p_146 (fun g => ?_) (fun g => ?_)
  · replace h := h.1 g
    refine ⟨fun _ => ?_, fun g => absurd g (by decide)⟩
    exact h
  · replace h := h.2 g
    refine ⟨fun g => absurd g (by decide), fun _ => ?_⟩
    refine ⟨⟨by decide, by decide⟩, ?_⟩
    exact h
theorem t_221_26 {d : Nat} {P : Int → qM → Prop} {x1 x2 : Int} {M : qM} {c s : Nat} (hl : q_lay M) (h : ((x1 ≤ x2 → (∀ M1 : qM, M1 = q_wn M 66 71 x1 → q_lay M1 → (q_At q_m221 (q_WP q_Pr (d + 1)) P 76 [(0, .inr (.inr 66)), (1, .inl x1), (2, .inl (0 : Int))] [] M1 c s))) ∧ (x2 < x1 → ((0 ≤ x2 ∧ x2 < 2100) ∧ (((q_nm M 67 x2) = (32 : Int) → (q_At q_m221 (q_WP q_Pr (d + 1)) P 26 [(0, .inr (.inr 66)), (1, .inl x1), (2, .inl (w32 (x2 + 1)))] [] M c s)) ∧ (¬ (q_nm M 67 x2) = (32 : Int) → ((0 ≤ x2 ∧ x2 < 2100) ∧ (((97 : Int) ≤ (q_nm M 67 x2) ∧ (q_nm M 67 x2) ≤ (122 : Int) → (q_At q_m221 (q_WP q_Pr (d + 1)) P 26 [(0, .inr (.inr 66)), (1, .inl x1), (2, .inl (w32 (x2 + 1)))] [] M c s)) ∧ (¬ ((97 : Int) ≤ (q_nm M 67 x2) ∧ (q_nm M 67 x2) ≤ (122 : Int)) → (P (0 : Int) M)))))))))) : q_At q_m221 (q_WP q_Pr (d + 1)) P 26 [(0, .inr (.inr 66)), (1, .inl x1), (2, .inl x2)] [] M c s := by
  refine s_221_26 ?_
  rw [lk66 hl, lr66_0 hl, ll67 hl, lk67 hl]
  refine ⟨?_, ?_⟩
  · replace h := h.1
    intro g
    replace h := h g
    refine ⟨rfl, ?_⟩
    intro M1
    have hlM1 : q_lay M1 := q_lay_wn hl
    replace h := h M1 rfl hlM1
    exact h
  · replace h := h.2
    intro g
    replace h := h g
    refine ⟨rfl, ?_⟩
    refine ⟨⟨rfl, h.1⟩, ?_⟩
    replace h := h.2
    refine ⟨?_, ?_⟩
    · replace h := h.1
      intro g
      replace h := h g
      exact h
    · replace h := h.2
      intro g
      replace h := h g
      refine ⟨rfl, ?_⟩
      refine ⟨⟨rfl, h.1⟩, ?_⟩
      replace h := h.2
      refine p_146 (fun g => ?_) (fun g => ?_)
      · replace h := h.1 g
        refine ⟨fun _ => ?_, fun g => absurd g (by decide)⟩
        exact h
      · replace h := h.2 g
        refine ⟨fun g => absurd g (by decide), fun _ => ?_⟩
        refine ⟨⟨by decide, by decide⟩, ?_⟩
        exact h
theorem t_221_76 {d : Nat} {P : Int → qM → Prop} {x1 x2 : Int} {M : qM} {c s : Nat} (hl : q_lay M) (h : ((x1 ≤ x2 → (P (1 : Int) M)) ∧ (x2 < x1 → ((0 ≤ x2 ∧ x2 < 2100) ∧ ((0 ≤ x2 ∧ x2 < 104) ∧ (∀ M1 : qM, M1 = q_wn M 119 x2 (q_nm M 67 x2) → q_lay M1 → (q_At q_m221 (q_WP q_Pr d) P 76 [(0, .inr (.inr 66)), (1, .inl x1), (2, .inl (w32 (x2 + 1)))] [] M1 c s))))))) : q_At q_m221 (q_WP q_Pr d) P 76 [(0, .inr (.inr 66)), (1, .inl x1), (2, .inl x2)] [] M c s := by
  refine s_221_76 ?_
  rw [lk66 hl, lr66_0 hl, ll67 hl, lk67 hl, lr66_72 hl, ll119 hl, lk119 hl]
  refine ⟨?_, ?_⟩
  · replace h := h.1
    intro g
    replace h := h g
    refine ⟨⟨by decide, by decide⟩, ?_⟩
    exact h
  · replace h := h.2
    intro g
    replace h := h g
    refine ⟨rfl, ?_⟩
    refine ⟨rfl, ?_⟩
    refine ⟨⟨rfl, h.1⟩, ?_⟩
    replace h := h.2
    refine ⟨⟨⟨by decide, rfl⟩, h.1⟩, ?_⟩
    replace h := h.2
    intro M1
    have hlM1 : q_lay M1 := q_lay_wn hl
    replace h := h M1 rfl hlM1
    exact h
theorem t_222_0 {d : Nat} {P : Int → qM → Prop} {x1 : Int} {M : qM} {c s : Nat} (hl : q_lay M) (h : ((x1 < 0 → (P (-1 : Int) M)) ∧ (0 ≤ x1 → (((q_nm M 66 71) ≤ x1 → (P (-1 : Int) M)) ∧ (x1 < (q_nm M 66 71) → ((0 ≤ x1 ∧ x1 < 104) ∧ (P (q_nm M 119 x1) M))))))) : q_At q_m222 (q_WP q_Pr d) P 0 [(0, .inr (.inr 66)), (1, .inl x1)] [] M c s := by
  refine s_222_0 ?_
  rw [lk66 hl, lr66_72 hl, ll119 hl, lk119 hl]
  refine ⟨?_, ?_⟩
  · replace h := h.1
    intro g
    replace h := h g
    exact h
  · replace h := h.2
    intro g
    replace h := h g
    refine ⟨rfl, ?_⟩
    refine ⟨?_, ?_⟩
    · replace h := h.1
      intro g
      replace h := h g
      exact h
    · replace h := h.2
      intro g
      replace h := h g
      refine ⟨rfl, ?_⟩
      refine ⟨⟨rfl, h.1⟩, ?_⟩
      replace h := h.2
      exact h
theorem t_223_0 {d : Nat} {P : Int → qM → Prop} {x1 x2 x3 x4 : Int} {M : qM} {c s : Nat} (hl : q_lay M) (h : ((0 ≤ x1 ∧ x1 < 640) ∧ (((q_nm M 112 x1) = x4 → (q_At q_m223 (q_WP q_Pr d) P 16 [(0, .inr (.inr 66)), (1, .inl x1), (2, .inr (.inr x2)), (3, .inl x3), (4, .inl x4), (5, .inl (0 : Int))] [] M c s)) ∧ (¬ (q_nm M 112 x1) = x4 → (P (0 : Int) M))))) : q_At q_m223 (q_WP q_Pr d) P 0 [(0, .inr (.inr 66)), (1, .inl x1), (2, .inr (.inr x2)), (3, .inl x3), (4, .inl x4)] [] M c s := by
  refine s_223_0 ?_
  rw [lk66 hl, lr66_61 hl, ll112 hl, lk112 hl]
  refine ⟨rfl, ?_⟩
  refine ⟨⟨rfl, h.1⟩, ?_⟩
  replace h := h.2
  refine ⟨?_, ?_⟩
  · replace h := h.1
    intro g
    replace h := h g
    exact h
  · replace h := h.2
    intro g
    replace h := h g
    refine ⟨⟨by decide, by decide⟩, ?_⟩
    exact h
theorem t_223_16 {d : Nat} {P : Int → qM → Prop} {x1 x2 x3 x4 x5 : Int} {M : qM} {c s : Nat} (hl : q_lay M) (h : ((x4 ≤ x5 → (P (1 : Int) M)) ∧ (x5 < x4 → ((0 ≤ (w32 ((w32 ((104 : Int) * x1)) + x5)) ∧ (w32 ((w32 ((104 : Int) * x1)) + x5)) < 66560) ∧ ((q_kd M x2 = 14 ∧ 0 ≤ (w32 (x3 + x5)) ∧ (w32 (x3 + x5)) < q_ln M x2) ∧ (((q_nm M 111 (w32 ((w32 ((104 : Int) * x1)) + x5))) = (q_nm M x2 (w32 (x3 + x5))) → (q_At q_m223 (q_WP q_Pr d) P 16 [(0, .inr (.inr 66)), (1, .inl x1), (2, .inr (.inr x2)), (3, .inl x3), (4, .inl x4), (5, .inl (w32 (x5 + 1)))] [] M c s)) ∧ (¬ (q_nm M 111 (w32 ((w32 ((104 : Int) * x1)) + x5))) = (q_nm M x2 (w32 (x3 + x5))) → (P (0 : Int) M)))))))) : q_At q_m223 (q_WP q_Pr d) P 16 [(0, .inr (.inr 66)), (1, .inl x1), (2, .inr (.inr x2)), (3, .inl x3), (4, .inl x4), (5, .inl x5)] [] M c s := by
  refine s_223_16 ?_
  rw [lk66 hl, lr66_60 hl, ll111 hl, lk111 hl]
  refine ⟨?_, ?_⟩
  · replace h := h.1
    intro g
    replace h := h g
    refine ⟨⟨by decide, by decide⟩, ?_⟩
    exact h
  · replace h := h.2
    intro g
    replace h := h g
    refine ⟨rfl, ?_⟩
    refine ⟨⟨rfl, h.1⟩, ?_⟩
    replace h := h.2
    refine ⟨h.1, ?_⟩
    replace h := h.2
    refine ⟨?_, ?_⟩
    · replace h := h.1
      intro g
      replace h := h g
      exact h
    · replace h := h.2
      intro g
      replace h := h g
      refine ⟨⟨by decide, by decide⟩, ?_⟩
      exact h
theorem t_224_0 {d : Nat} {P : Int → qM → Prop} {x1 : Int} {M : qM} {c s : Nat} (hl : q_lay M) (h : (((q_nm M 66 71) ≤ 0 → (P (0 : Int) M)) ∧ (0 < (q_nm M 66 71) → q_WP q_Pr d 223 [.inr (.inr 66), .inl x1, .inr (.inr 119), .inl (0 : Int), .inl (q_nm M 66 71)] M (fun v1 M2 => q_lay M2 ∧ ((v1 = 0 → (P (0 : Int) M2)) ∧ (¬ v1 = 0 → (P (1 : Int) M2))))))) : q_At q_m224 (q_WP q_Pr d) P 0 [(0, .inr (.inr 66)), (1, .inl x1)] [] M c s := by
  refine s_224_0 ?_
  rw [lk66 hl, lr66_72 hl]
  refine ⟨rfl, ?_⟩
  refine ⟨?_, ?_⟩
  · replace h := h.1
    intro g
    replace h := h g
    refine ⟨⟨by decide, by decide⟩, ?_⟩
    exact h
  · replace h := h.2
    intro g
    replace h := h g
    refine ⟨rfl, ?_⟩
    refine ⟨rfl, ?_⟩
    refine ⟨rfl, ?_⟩
    refine q_WP_mono _ _ _ _ _ _ (fun v1 M2 hh => ?_) h
    obtain ⟨hlM2, h⟩ := hh
    refine ⟨?_, ?_⟩
    · replace h := h.1
      intro g
      replace h := h g
      refine ⟨⟨by decide, by decide⟩, ?_⟩
      exact h
    · replace h := h.2
      intro g
      replace h := h g
      refine ⟨⟨by decide, by decide⟩, ?_⟩
      exact h
theorem t_225_0 {d : Nat} {P : Int → qM → Prop} {x1 x2 : Int} {M : qM} {c s : Nat} (hl : q_lay M) (h : ((0 ≤ q_nm M 66 40 ∧ q_nm M 66 40 ≤ 12) ∧ ((0 ≤ x1 ∧ x1 < q_nm M 66 40 → ((x2 = (-1 : Int) → q_WP q_Pr (d + 2) 201 [.inr (.inr 66), .inl x1] M (fun v3 M4 => q_lay M4 ∧ (q_At q_m225 (q_WP q_Pr (d + 2)) P 33 [(0, .inr (.inr 66)), (2, .inl x2), (3, .inl (0 : Int)), (4, .inl (0 : Int))] [] M4 c s))) ∧ (¬ x2 = (-1 : Int) → ((0 ≤ x2 ∧ x2 ≤ 8 → q_WP q_Pr (d + 2) 201 [.inr (.inr 66), .inl x1] M (fun v7 M8 => q_lay M8 ∧ (q_At q_m225 (q_WP q_Pr (d + 2)) P 33 [(0, .inr (.inr 66)), (2, .inl x2), (3, .inl (0 : Int)), (4, .inl (0 : Int))] [] M8 c s))) ∧ (¬ (0 ≤ x2 ∧ x2 ≤ 8) → (P (-1 : Int) M)))))) ∧ (¬ (0 ≤ x1 ∧ x1 < q_nm M 66 40) → (P (-1 : Int) M))))) : q_At q_m225 (q_WP q_Pr (d + 2)) P 0 [(0, .inr (.inr 66)), (1, .inl x1), (2, .inl x2)] [] M c s := by
  refine s_225_0 ?_
  rw [lk66 hl]
  refine ⟨rfl, ?_⟩
  refine p_164 hl h.1 (fun g => ?_) (fun g => ?_)
  · replace h := h.2.1 g
    rw [lk66 hl]
    refine ⟨fun g => absurd g (by decide), fun _ => ?_⟩
    refine ⟨?_, ?_⟩
    · replace h := h.1
      intro g
      replace h := h g
      refine ⟨rfl, ?_⟩
      refine q_WP_mono _ _ _ _ _ _ (fun v3 M4 hh => ?_) h
      obtain ⟨hlM4, h⟩ := hh
      exact h
    · replace h := h.2
      intro g
      replace h := h g
      refine ⟨rfl, ?_⟩
      refine p_165 (fun g => ?_) (fun g => ?_)
      · replace h := h.1 g
        rw [lk66 hl]
        refine ⟨fun _ => ?_, fun g => absurd g (by decide)⟩
        refine ⟨rfl, ?_⟩
        refine q_WP_mono _ _ _ _ _ _ (fun v7 M8 hh => ?_) h
        obtain ⟨hlM8, h⟩ := hh
        exact h
      · replace h := h.2 g
        rw [lk66 hl]
        refine ⟨fun g => absurd g (by decide), fun _ => ?_⟩
        exact h
  · replace h := h.2.2 g
    rw [lk66 hl]
    refine ⟨fun _ => ?_, fun g => absurd g (by decide)⟩
    exact h
theorem t_225_33 {d : Nat} {P : Int → qM → Prop} {x2 x3 x4 : Int} {M : qM} {c s : Nat} (hl : q_lay M) (h : (((q_nm M 66 55) ≤ x4 → (P x3 M)) ∧ (x4 < (q_nm M 66 55) → ((x2 = (-1 : Int) → q_WP q_Pr d 224 [.inr (.inr 66), .inl x4] M (fun v1 M2 => q_lay M2 ∧ ((v1 = 0 → (q_At q_m225 (q_WP q_Pr d) P 33 [(0, .inr (.inr 66)), (2, .inl x2), (3, .inl x3), (4, .inl (w32 (x4 + 1)))] [] M2 c s)) ∧ (¬ v1 = 0 → (q_At q_m225 (q_WP q_Pr d) P 33 [(0, .inr (.inr 66)), (2, .inl x2), (3, .inl (w32 (x3 + 1))), (4, .inl (w32 (x4 + 1)))] [] M2 c s))))) ∧ (¬ x2 = (-1 : Int) → ((0 ≤ x4 ∧ x4 < 640) ∧ ((¬ (q_nm M 108 x4) = x2 → (q_At q_m225 (q_WP q_Pr d) P 33 [(0, .inr (.inr 66)), (2, .inl x2), (3, .inl x3), (4, .inl (w32 (x4 + 1)))] [] M c s)) ∧ ((q_nm M 108 x4) = x2 → q_WP q_Pr d 224 [.inr (.inr 66), .inl x4] M (fun v3 M4 => q_lay M4 ∧ ((v3 = 0 → (q_At q_m225 (q_WP q_Pr d) P 33 [(0, .inr (.inr 66)), (2, .inl x2), (3, .inl x3), (4, .inl (w32 (x4 + 1)))] [] M4 c s)) ∧ (¬ v3 = 0 → (q_At q_m225 (q_WP q_Pr d) P 33 [(0, .inr (.inr 66)), (2, .inl x2), (3, .inl (w32 (x3 + 1))), (4, .inl (w32 (x4 + 1)))] [] M4 c s)))))))))))) : q_At q_m225 (q_WP q_Pr d) P 33 [(0, .inr (.inr 66)), (2, .inl x2), (3, .inl x3), (4, .inl x4)] [] M c s := by
  refine s_225_33 ?_
  rw [lk66 hl, lr66_57 hl, ll108 hl, lk108 hl]
  refine ⟨rfl, ?_⟩
  refine ⟨?_, ?_⟩
  · replace h := h.1
    intro g
    replace h := h g
    exact h
  · replace h := h.2
    intro g
    replace h := h g
    refine ⟨?_, ?_⟩
    · replace h := h.1
      intro g
      replace h := h g
      refine ⟨rfl, ?_⟩
      refine q_WP_mono _ _ _ _ _ _ (fun v1 M2 hh => ?_) h
      obtain ⟨hlM2, h⟩ := hh
      refine ⟨?_, ?_⟩
      · replace h := h.1
        intro g
        replace h := h g
        exact h
      · replace h := h.2
        intro g
        replace h := h g
        exact h
    · replace h := h.2
      intro g
      replace h := h g
      refine ⟨rfl, ?_⟩
      refine ⟨⟨rfl, h.1⟩, ?_⟩
      replace h := h.2
      refine ⟨?_, ?_⟩
      · replace h := h.1
        intro g
        replace h := h g
        exact h
      · replace h := h.2
        intro g
        replace h := h g
        refine ⟨rfl, ?_⟩
        refine q_WP_mono _ _ _ _ _ _ (fun v3 M4 hh => ?_) h
        obtain ⟨hlM4, h⟩ := hh
        refine ⟨?_, ?_⟩
        · replace h := h.1
          intro g
          replace h := h g
          exact h
        · replace h := h.2
          intro g
          replace h := h g
          exact h
theorem t_226_0 {d : Nat} {P : Int → qM → Prop} {x0 x2 : Int} {M : qM} {c s : Nat} (hl : q_lay M) (h : (q_At q_m226 (q_WP q_Pr d) P 6 [(4, .inr (.inl x0)), (6, .inr (.inl x2))] [] M c s)) : q_At q_m226 (q_WP q_Pr d) P 0 [(0, .inr (.inl x0)), (2, .inr (.inl x2))] [] M c s := by
  refine s_226_0 ?_
  exact h
theorem t_226_6 {d : Nat} {P : Int → qM → Prop} {x4 x6 : Int} {M : qM} {c s : Nat} (hl : q_lay M) (h : (((q_lc x6 (0 : Int)) ≤ 0 → (P x4 M)) ∧ (0 < (q_lc x6 (0 : Int)) → ((x6 ≠ 0) ∧ (q_At q_m226 (q_WP q_Pr d) P 6 [(4, .inr (.inl x6)), (6, .inr (.inl (Int.tmod x4 x6)))] [] M c s))))) : q_At q_m226 (q_WP q_Pr d) P 6 [(4, .inr (.inl x4)), (6, .inr (.inl x6))] [] M c s := by
  refine s_226_6 ?_
  refine ⟨?_, ?_⟩
  · replace h := h.1
    intro g
    replace h := h g
    exact h
  · replace h := h.2
    intro g
    replace h := h g
    refine ⟨h.1, ?_⟩
    replace h := h.2
    exact h
theorem t_227_0 {d : Nat} {P : Int → qM → Prop} {x0 x2 x4 : Int} {M : qM} {c s : Nat} (hl : q_lay M) (h : q_WP q_Pr d 226 [.inr (.inl x0), .inr (.inl x2)] M (fun v1 M2 => q_lay M2 ∧ ((x4 = 0 → ((v1 ≠ 0) ∧ (P (w32 (w64 (Int.tdiv x2 v1))) M2))) ∧ (¬ x4 = 0 → ((v1 ≠ 0) ∧ (P (w32 (w64 (Int.tdiv x0 v1))) M2)))))) : q_At q_m227 (q_WP q_Pr d) P 0 [(0, .inr (.inl x0)), (2, .inr (.inl x2)), (4, .inl x4)] [] M c s := by
  refine s_227_0 ?_
  refine q_WP_mono _ _ _ _ _ _ (fun v1 M2 hh => ?_) h
  obtain ⟨hlM2, h⟩ := hh
  refine ⟨?_, ?_⟩
  · replace h := h.1
    intro g
    replace h := h g
    refine ⟨h.1, ?_⟩
    replace h := h.2
    exact h
  · replace h := h.2
    intro g
    replace h := h g
    refine ⟨h.1, ?_⟩
    replace h := h.2
    exact h
theorem t_228_0 {d : Nat} {P : Int → qM → Prop} {x1 x2 x3 : Int} {M : qM} {c s : Nat} (hl : q_lay M) (h : ((0 ≤ q_nm M 66 40 ∧ q_nm M 66 40 ≤ 12) ∧ ((0 ≤ x1 ∧ x1 < q_nm M 66 40 → (((0 ≤ x2 ∧ x2 ≤ 3) ∧ ¬ q_nm M 100 x2 = 0 → q_WP q_Pr (d + 2) 215 [.inr (.inr 66), .inl x1, .inl x2] M (fun v5 M6 => q_lay M6 ∧ ((¬ v5 = 0 → (q_At q_m228 (q_WP q_Pr (d + 2)) P 39 [(0, .inr (.inr 66)), (3, .inl x3), (4, .inl v5), (5, .inl (0 : Int)), (6, .inl (0 : Int))] [] M6 c s)) ∧ (v5 = 0 → (P (-1 : Int) M6))))) ∧ (¬ ((0 ≤ x2 ∧ x2 ≤ 3) ∧ ¬ q_nm M 100 x2 = 0) → (P (-1 : Int) M)))) ∧ (¬ (0 ≤ x1 ∧ x1 < q_nm M 66 40) → (P (-1 : Int) M))))) : q_At q_m228 (q_WP q_Pr (d + 2)) P 0 [(0, .inr (.inr 66)), (1, .inl x1), (2, .inl x2), (3, .inl x3)] [] M c s := by
  refine s_228_0 ?_
  rw [lk66 hl]
  refine ⟨rfl, ?_⟩
  refine p_164 hl h.1 (fun g => ?_) (fun g => ?_)
  · replace h := h.2.1 g
    rw [lk66 hl]
    refine ⟨fun g => absurd g (by decide), fun _ => ?_⟩
    refine ⟨rfl, ?_⟩
    refine p_216 hl (fun g => ?_) (fun g => ?_)
    · replace h := h.1 g
      rw [lk66 hl]
      refine ⟨fun _ => ?_, fun g => absurd g (by decide)⟩
      refine ⟨rfl, ?_⟩
      refine q_WP_mono _ _ _ _ _ _ (fun v5 M6 hh => ?_) h
      obtain ⟨hlM6, h⟩ := hh
      refine ⟨?_, ?_⟩
      · replace h := h.1
        intro g
        replace h := h g
        exact h
      · replace h := h.2
        intro g
        replace h := h g
        exact h
    · replace h := h.2 g
      rw [lk66 hl]
      refine ⟨fun g => absurd g (by decide), fun _ => ?_⟩
      exact h
  · replace h := h.2.2 g
    rw [lk66 hl]
    refine ⟨fun _ => ?_, fun g => absurd g (by decide)⟩
    exact h
theorem t_228_39 {d : Nat} {P : Int → qM → Prop} {x3 x4 x5 x6 : Int} {M : qM} {c s : Nat} (hl : q_lay M) (h : (((q_nm M 66 55) ≤ x6 → q_WP q_Pr d 227 [.inr (.inl x5), .inr (.inl x4), .inl x3] M (fun v1 M2 => q_lay M2 ∧ (P v1 M2))) ∧ (x6 < (q_nm M 66 55) → q_WP q_Pr d 224 [.inr (.inr 66), .inl x6] M (fun v3 M4 => q_lay M4 ∧ ((v3 = 0 → (q_At q_m228 (q_WP q_Pr d) P 39 [(0, .inr (.inr 66)), (3, .inl x3), (4, .inl x4), (5, .inl x5), (6, .inl (w32 (x6 + 1)))] [] M4 c s)) ∧ (¬ v3 = 0 → ((0 ≤ x6 ∧ x6 < 640) ∧ (q_At q_m228 (q_WP q_Pr d) P 39 [(0, .inr (.inr 66)), (3, .inl x3), (4, .inl x4), (5, .inl (w32 (x5 + (q_nm M4 118 x6)))), (6, .inl (w32 (x6 + 1)))] [] M4 c s)))))))) : q_At q_m228 (q_WP q_Pr d) P 39 [(0, .inr (.inr 66)), (3, .inl x3), (4, .inl x4), (5, .inl x5), (6, .inl x6)] [] M c s := by
  refine s_228_39 ?_
  rw [lk66 hl]
  refine ⟨rfl, ?_⟩
  refine ⟨?_, ?_⟩
  · replace h := h.1
    intro g
    replace h := h g
    refine q_WP_mono _ _ _ _ _ _ (fun v1 M2 hh => ?_) h
    obtain ⟨hlM2, h⟩ := hh
    exact h
  · replace h := h.2
    intro g
    replace h := h g
    refine ⟨rfl, ?_⟩
    refine q_WP_mono _ _ _ _ _ _ (fun v3 M4 hh => ?_) h
    obtain ⟨hlM4, h⟩ := hh
    rw [lk66 hlM4, lr66_70 hlM4, ll118 hlM4, lk118 hlM4]
    refine ⟨?_, ?_⟩
    · replace h := h.1
      intro g
      replace h := h g
      exact h
    · replace h := h.2
      intro g
      replace h := h g
      refine ⟨rfl, ?_⟩
      refine ⟨⟨rfl, h.1⟩, ?_⟩
      replace h := h.2
      exact h
theorem t_229_0 {d : Nat} {P : Int → qM → Prop} {x1 x2 x3 x4 : Int} {M : qM} {c s : Nat} (hl : q_lay M) (h : ((0 ≤ q_nm M 66 40 ∧ q_nm M 66 40 ≤ 12) ∧ ((0 ≤ x1 ∧ x1 < q_nm M 66 40 → (((0 ≤ x2 ∧ x2 ≤ 3) ∧ ¬ q_nm M 100 x2 = 0 → ((0 ≤ x3 ∧ x3 ≤ 8 → q_WP q_Pr (d + 2) 215 [.inr (.inr 66), .inl x1, .inl x2] M (fun v7 M8 => q_lay M8 ∧ (q_At q_m229 (q_WP q_Pr (d + 2)) P 42 [(0, .inr (.inr 66)), (3, .inl x3), (4, .inl x4), (5, .inl (0 : Int)), (6, .inl (0 : Int)), (7, .inl (0 : Int))] [] M8 c s))) ∧ (¬ (0 ≤ x3 ∧ x3 ≤ 8) → (P (-1 : Int) M)))) ∧ (¬ ((0 ≤ x2 ∧ x2 ≤ 3) ∧ ¬ q_nm M 100 x2 = 0) → (P (-1 : Int) M)))) ∧ (¬ (0 ≤ x1 ∧ x1 < q_nm M 66 40) → (P (-1 : Int) M))))) : q_At q_m229 (q_WP q_Pr (d + 2)) P 0 [(0, .inr (.inr 66)), (1, .inl x1), (2, .inl x2), (3, .inl x3), (4, .inl x4)] [] M c s := by
  refine s_229_0 ?_
  rw [lk66 hl]
  refine ⟨rfl, ?_⟩
  refine p_164 hl h.1 (fun g => ?_) (fun g => ?_)
  · replace h := h.2.1 g
    rw [lk66 hl]
    refine ⟨fun g => absurd g (by decide), fun _ => ?_⟩
    refine ⟨rfl, ?_⟩
    refine p_216 hl (fun g => ?_) (fun g => ?_)
    · replace h := h.1 g
      rw [lk66 hl]
      refine ⟨fun g => absurd g (by decide), fun _ => ?_⟩
      refine ⟨rfl, ?_⟩
      refine p_165 (fun g => ?_) (fun g => ?_)
      · replace h := h.1 g
        rw [lk66 hl]
        refine ⟨fun _ => ?_, fun g => absurd g (by decide)⟩
        refine ⟨rfl, ?_⟩
        refine q_WP_mono _ _ _ _ _ _ (fun v7 M8 hh => ?_) h
        obtain ⟨hlM8, h⟩ := hh
        exact h
      · replace h := h.2 g
        rw [lk66 hl]
        refine ⟨fun g => absurd g (by decide), fun _ => ?_⟩
        exact h
    · replace h := h.2 g
      rw [lk66 hl]
      refine ⟨fun _ => ?_, fun g => absurd g (by decide)⟩
      exact h
  · replace h := h.2.2 g
    rw [lk66 hl]
    refine ⟨fun _ => ?_, fun g => absurd g (by decide)⟩
    exact h
theorem t_229_42 {d : Nat} {P : Int → qM → Prop} {x3 x4 x5 x6 x7 : Int} {M : qM} {c s : Nat} (hl : q_lay M) (h : (((q_nm M 66 55) ≤ x7 → ((¬ x5 = 0 → q_WP q_Pr d 227 [.inr (.inl x6), .inr (.inl x5), .inl x4] M (fun v1 M2 => q_lay M2 ∧ (P v1 M2))) ∧ (x5 = 0 → (P (-1 : Int) M)))) ∧ (x7 < (q_nm M 66 55) → q_WP q_Pr d 224 [.inr (.inr 66), .inl x7] M (fun v3 M4 => q_lay M4 ∧ ((¬ v3 = 0 → ((0 ≤ x7 ∧ x7 < 640) ∧ ((0 ≤ x7 ∧ x7 < 640) ∧ ((¬ (q_nm M4 108 x7) = x3 → (q_At q_m229 (q_WP q_Pr d) P 42 [(0, .inr (.inr 66)), (3, .inl x3), (4, .inl x4), (5, .inl (w32 (x5 + (q_nm M4 118 x7)))), (6, .inl x6), (7, .inl (w32 (x7 + 1)))] [] M4 c s)) ∧ ((q_nm M4 108 x7) = x3 → ((0 ≤ x7 ∧ x7 < 640) ∧ (q_At q_m229 (q_WP q_Pr d) P 42 [(0, .inr (.inr 66)), (3, .inl x3), (4, .inl x4), (5, .inl (w32 (x5 + (q_nm M4 118 x7)))), (6, .inl (w32 (x6 + (q_nm M4 118 x7)))), (7, .inl (w32 (x7 + 1)))] [] M4 c s))))))) ∧ (v3 = 0 → (q_At q_m229 (q_WP q_Pr d) P 42 [(0, .inr (.inr 66)), (3, .inl x3), (4, .inl x4), (5, .inl x5), (6, .inl x6), (7, .inl (w32 (x7 + 1)))] [] M4 c s))))))) : q_At q_m229 (q_WP q_Pr d) P 42 [(0, .inr (.inr 66)), (3, .inl x3), (4, .inl x4), (5, .inl x5), (6, .inl x6), (7, .inl x7)] [] M c s := by
  refine s_229_42 ?_
  rw [lk66 hl]
  refine ⟨rfl, ?_⟩
  refine ⟨?_, ?_⟩
  · replace h := h.1
    intro g
    replace h := h g
    refine ⟨?_, ?_⟩
    · replace h := h.1
      intro g
      replace h := h g
      refine q_WP_mono _ _ _ _ _ _ (fun v1 M2 hh => ?_) h
      obtain ⟨hlM2, h⟩ := hh
      exact h
    · replace h := h.2
      intro g
      replace h := h g
      exact h
  · replace h := h.2
    intro g
    replace h := h g
    refine ⟨rfl, ?_⟩
    refine q_WP_mono _ _ _ _ _ _ (fun v3 M4 hh => ?_) h
    obtain ⟨hlM4, h⟩ := hh
    rw [lk66 hlM4, lr66_70 hlM4, ll118 hlM4, lk118 hlM4, lr66_57 hlM4, ll108 hlM4, lk108 hlM4]
    refine ⟨?_, ?_⟩
    · replace h := h.1
      intro g
      replace h := h g
      refine ⟨rfl, ?_⟩
      refine ⟨⟨rfl, h.1⟩, ?_⟩
      replace h := h.2
      refine ⟨rfl, ?_⟩
      refine ⟨⟨rfl, h.1⟩, ?_⟩
      replace h := h.2
      refine ⟨?_, ?_⟩
      · replace h := h.1
        intro g
        replace h := h g
        exact h
      · replace h := h.2
        intro g
        replace h := h g
        refine ⟨rfl, ?_⟩
        refine ⟨⟨rfl, h.1⟩, ?_⟩
        replace h := h.2
        exact h
    · replace h := h.2
      intro g
      replace h := h g
      exact h
theorem t_230_0 {d : Nat} {P : Int → qM → Prop} {x1 : Int} {M : qM} {c s : Nat} (hl : q_lay M) (h : ((x1 = (-1 : Int) → (q_At q_m230 (q_WP q_Pr (d + 2)) P 19 [(0, .inr (.inr 66)), (1, .inl x1), (2, .inl (0 : Int)), (3, .inl (0 : Int))] [] M c s)) ∧ (¬ x1 = (-1 : Int) → (((0 ≤ x1 ∧ x1 ≤ 3) ∧ ¬ q_nm M 100 x1 = 0 → (q_At q_m230 (q_WP q_Pr (d + 2)) P 19 [(0, .inr (.inr 66)), (1, .inl x1), (2, .inl (0 : Int)), (3, .inl (0 : Int))] [] M c s)) ∧ (¬ ((0 ≤ x1 ∧ x1 ≤ 3) ∧ ¬ q_nm M 100 x1 = 0) → (P (-1 : Int) M)))))) : q_At q_m230 (q_WP q_Pr (d + 2)) P 0 [(0, .inr (.inr 66)), (1, .inl x1)] [] M c s := by
  refine s_230_0 ?_
  rw [lk66 hl]
  refine ⟨?_, ?_⟩
  · replace h := h.1
    intro g
    replace h := h g
    exact h
  · replace h := h.2
    intro g
    replace h := h g
    refine ⟨rfl, ?_⟩
    refine p_216 hl (fun g => ?_) (fun g => ?_)
    · replace h := h.1 g
      refine ⟨fun _ => ?_, fun g => absurd g (by decide)⟩
      exact h
    · replace h := h.2 g
      refine ⟨fun g => absurd g (by decide), fun _ => ?_⟩
      exact h
theorem t_230_19 {d : Nat} {P : Int → qM → Prop} {x1 x2 x3 : Int} {M : qM} {c s : Nat} (hl : q_lay M) (h : (((q_nm M 66 40) ≤ x3 → (P x2 M)) ∧ (x3 < (q_nm M 66 40) → ((¬ x1 = (-1 : Int) → q_WP q_Pr d 215 [.inr (.inr 66), .inl x3, .inl x1] M (fun v1 M2 => q_lay M2 ∧ (q_At q_m230 (q_WP q_Pr d) P 50 [(0, .inr (.inr 66)), (1, .inl x1), (2, .inl x2), (3, .inl x3), (4, .inl (0 : Int))] [] M2 c s))) ∧ (x1 = (-1 : Int) → q_WP q_Pr d 201 [.inr (.inr 66), .inl x3] M (fun v3 M4 => q_lay M4 ∧ (q_At q_m230 (q_WP q_Pr d) P 50 [(0, .inr (.inr 66)), (1, .inl x1), (2, .inl x2), (3, .inl x3), (4, .inl (0 : Int))] [] M4 c s))))))) : q_At q_m230 (q_WP q_Pr d) P 19 [(0, .inr (.inr 66)), (1, .inl x1), (2, .inl x2), (3, .inl x3)] [] M c s := by
  refine s_230_19 ?_
  rw [lk66 hl]
  refine ⟨rfl, ?_⟩
  refine ⟨?_, ?_⟩
  · replace h := h.1
    intro g
    replace h := h g
    exact h
  · replace h := h.2
    intro g
    replace h := h g
    refine ⟨?_, ?_⟩
    · replace h := h.1
      intro g
      replace h := h g
      refine ⟨rfl, ?_⟩
      refine q_WP_mono _ _ _ _ _ _ (fun v1 M2 hh => ?_) h
      obtain ⟨hlM2, h⟩ := hh
      exact h
    · replace h := h.2
      intro g
      replace h := h g
      refine ⟨rfl, ?_⟩
      refine q_WP_mono _ _ _ _ _ _ (fun v3 M4 hh => ?_) h
      obtain ⟨hlM4, h⟩ := hh
      exact h
theorem t_230_50 {d : Nat} {P : Int → qM → Prop} {x1 x2 x3 x4 : Int} {M : qM} {c s : Nat} (hl : q_lay M) (h : (((q_nm M 66 55) ≤ x4 → (q_At q_m230 (q_WP q_Pr d) P 19 [(0, .inr (.inr 66)), (1, .inl x1), (2, .inl x2), (3, .inl (w32 (x3 + 1)))] [] M c s)) ∧ (x4 < (q_nm M 66 55) → q_WP q_Pr d 224 [.inr (.inr 66), .inl x4] M (fun v1 M2 => q_lay M2 ∧ ((v1 = 0 → (q_At q_m230 (q_WP q_Pr d) P 50 [(0, .inr (.inr 66)), (1, .inl x1), (2, .inl x2), (3, .inl x3), (4, .inl (w32 (x4 + 1)))] [] M2 c s)) ∧ (¬ v1 = 0 → ((x1 = (-1 : Int) → (q_At q_m230 (q_WP q_Pr d) P 50 [(0, .inr (.inr 66)), (1, .inl x1), (2, .inl (q_or x2 (q_shl (1 : Int) x3))), (3, .inl x3), (4, .inl (w32 (x4 + 1)))] [] M2 c s)) ∧ (¬ x1 = (-1 : Int) → ((0 ≤ x4 ∧ x4 < 640) ∧ (((q_nm M2 118 x4) ≤ 0 → (q_At q_m230 (q_WP q_Pr d) P 50 [(0, .inr (.inr 66)), (1, .inl x1), (2, .inl x2), (3, .inl x3), (4, .inl (w32 (x4 + 1)))] [] M2 c s)) ∧ (0 < (q_nm M2 118 x4) → (q_At q_m230 (q_WP q_Pr d) P 50 [(0, .inr (.inr 66)), (1, .inl x1), (2, .inl (q_or x2 (q_shl (1 : Int) x3))), (3, .inl x3), (4, .inl (w32 (x4 + 1)))] [] M2 c s)))))))))))) : q_At q_m230 (q_WP q_Pr d) P 50 [(0, .inr (.inr 66)), (1, .inl x1), (2, .inl x2), (3, .inl x3), (4, .inl x4)] [] M c s := by
  refine s_230_50 ?_
  rw [lk66 hl]
  refine ⟨rfl, ?_⟩
  refine ⟨?_, ?_⟩
  · replace h := h.1
    intro g
    replace h := h g
    exact h
  · replace h := h.2
    intro g
    replace h := h g
    refine ⟨rfl, ?_⟩
    refine q_WP_mono _ _ _ _ _ _ (fun v1 M2 hh => ?_) h
    obtain ⟨hlM2, h⟩ := hh
    rw [lk66 hlM2, lr66_70 hlM2, ll118 hlM2, lk118 hlM2]
    refine ⟨?_, ?_⟩
    · replace h := h.1
      intro g
      replace h := h g
      exact h
    · replace h := h.2
      intro g
      replace h := h g
      refine ⟨?_, ?_⟩
      · replace h := h.1
        intro g
        replace h := h g
        exact h
      · replace h := h.2
        intro g
        replace h := h g
        refine ⟨rfl, ?_⟩
        refine ⟨⟨rfl, h.1⟩, ?_⟩
        replace h := h.2
        refine ⟨?_, ?_⟩
        · replace h := h.1
          intro g
          replace h := h g
          exact h
        · replace h := h.2
          intro g
          replace h := h g
          exact h
theorem t_231_0 {d : Nat} {P : Int → qM → Prop} {x1 x2 : Int} {M : qM} {c s : Nat} (hl : q_lay M) (h : ((0 ≤ q_nm M 66 40 ∧ q_nm M 66 40 ≤ 12) ∧ ((0 ≤ x1 ∧ x1 < q_nm M 66 40 → (((0 ≤ x2 ∧ x2 ≤ 3) ∧ ¬ q_nm M 100 x2 = 0 → q_WP q_Pr (d + 2) 215 [.inr (.inr 66), .inl x1, .inl x2] M (fun v5 M6 => q_lay M6 ∧ ((¬ v5 = 0 → (q_At q_m231 (q_WP q_Pr (d + 2)) P 32 [(0, .inr (.inr 66)), (3, .inl (0 : Int)), (4, .inl (1 : Int))] [] M6 c s)) ∧ (v5 = 0 → (P (-1 : Int) M6))))) ∧ (¬ ((0 ≤ x2 ∧ x2 ≤ 3) ∧ ¬ q_nm M 100 x2 = 0) → (P (-1 : Int) M)))) ∧ (¬ (0 ≤ x1 ∧ x1 < q_nm M 66 40) → (P (-1 : Int) M))))) : q_At q_m231 (q_WP q_Pr (d + 2)) P 0 [(0, .inr (.inr 66)), (1, .inl x1), (2, .inl x2)] [] M c s := by
  refine s_231_0 ?_
  rw [lk66 hl]
  refine ⟨rfl, ?_⟩
  refine p_164 hl h.1 (fun g => ?_) (fun g => ?_)
  · replace h := h.2.1 g
    rw [lk66 hl]
    refine ⟨fun g => absurd g (by decide), fun _ => ?_⟩
    refine ⟨rfl, ?_⟩
    refine p_216 hl (fun g => ?_) (fun g => ?_)
    · replace h := h.1 g
      rw [lk66 hl]
      refine ⟨fun g => absurd g (by decide), fun _ => ?_⟩
      refine ⟨rfl, ?_⟩
      refine q_WP_mono _ _ _ _ _ _ (fun v5 M6 hh => ?_) h
      obtain ⟨hlM6, h⟩ := hh
      refine ⟨?_, ?_⟩
      · replace h := h.1
        intro g
        replace h := h g
        exact h
      · replace h := h.2
        intro g
        replace h := h g
        exact h
    · replace h := h.2 g
      rw [lk66 hl]
      refine ⟨fun _ => ?_, fun g => absurd g (by decide)⟩
      exact h
  · replace h := h.2.2 g
    rw [lk66 hl]
    refine ⟨fun _ => ?_, fun g => absurd g (by decide)⟩
    exact h
theorem t_231_32 {d : Nat} {P : Int → qM → Prop} {x3 x4 : Int} {M : qM} {c s : Nat} (hl : q_lay M) (h : (((q_nm M 66 55) ≤ x4 → (P x3 M)) ∧ (x4 < (q_nm M 66 55) → ((0 ≤ x4 ∧ x4 < 640) ∧ ((0 ≤ x3 ∧ x3 < 640) ∧ (((q_nm M 118 x4) ≤ (q_nm M 118 x3) → (q_At q_m231 (q_WP q_Pr d) P 32 [(0, .inr (.inr 66)), (3, .inl x3), (4, .inl (w32 (x4 + 1)))] [] M c s)) ∧ ((q_nm M 118 x3) < (q_nm M 118 x4) → (q_At q_m231 (q_WP q_Pr d) P 32 [(0, .inr (.inr 66)), (3, .inl x4), (4, .inl (w32 (x4 + 1)))] [] M c s)))))))) : q_At q_m231 (q_WP q_Pr d) P 32 [(0, .inr (.inr 66)), (3, .inl x3), (4, .inl x4)] [] M c s := by
  refine s_231_32 ?_
  rw [lk66 hl, lr66_70 hl, ll118 hl, lk118 hl]
  refine ⟨rfl, ?_⟩
  refine ⟨?_, ?_⟩
  · replace h := h.1
    intro g
    replace h := h g
    exact h
  · replace h := h.2
    intro g
    replace h := h g
    refine ⟨rfl, ?_⟩
    refine ⟨⟨rfl, h.1⟩, ?_⟩
    replace h := h.2
    refine ⟨rfl, ?_⟩
    refine ⟨⟨rfl, h.1⟩, ?_⟩
    replace h := h.2
    refine ⟨?_, ?_⟩
    · replace h := h.1
      intro g
      replace h := h g
      exact h
    · replace h := h.2
      intro g
      replace h := h g
      exact h
theorem t_232_0 {d : Nat} {P : Int → qM → Prop} {x1 x2 : Int} {M : qM} {c s : Nat} (hl : q_lay M) (h : (((0 ≤ x1 ∧ x1 ≤ 3) ∧ ¬ q_nm M 100 x1 = 0 → ((0 ≤ x2 ∧ x2 ≤ 8 → (q_At q_m232 (q_WP q_Pr (d + 2)) P 20 [(0, .inr (.inr 66)), (1, .inl x1), (2, .inl x2), (3, .inl (0 : Int))] [] M c s)) ∧ (¬ (0 ≤ x2 ∧ x2 ≤ 8) → (P (-1 : Int) M)))) ∧ (¬ ((0 ≤ x1 ∧ x1 ≤ 3) ∧ ¬ q_nm M 100 x1 = 0) → (P (-1 : Int) M)))) : q_At q_m232 (q_WP q_Pr (d + 2)) P 0 [(0, .inr (.inr 66)), (1, .inl x1), (2, .inl x2)] [] M c s := by
  refine s_232_0 ?_
  rw [lk66 hl]
  refine ⟨rfl, ?_⟩
  refine p_216 hl (fun g => ?_) (fun g => ?_)
  · replace h := h.1 g
    rw [lk66 hl]
    refine ⟨fun g => absurd g (by decide), fun _ => ?_⟩
    refine ⟨rfl, ?_⟩
    refine p_165 (fun g => ?_) (fun g => ?_)
    · replace h := h.1 g
      refine ⟨fun _ => ?_, fun g => absurd g (by decide)⟩
      exact h
    · replace h := h.2 g
      refine ⟨fun g => absurd g (by decide), fun _ => ?_⟩
      exact h
  · replace h := h.2 g
    rw [lk66 hl]
    refine ⟨fun _ => ?_, fun g => absurd g (by decide)⟩
    exact h
theorem t_232_20 {d : Nat} {P : Int → qM → Prop} {x1 x2 x3 : Int} {M : qM} {c s : Nat} (hl : q_lay M) (h : (((q_nm M 66 40) ≤ x3 → (P (1 : Int) M)) ∧ (x3 < (q_nm M 66 40) → q_WP q_Pr d 215 [.inr (.inr 66), .inl x3, .inl x1] M (fun v1 M2 => q_lay M2 ∧ (q_At q_m232 (q_WP q_Pr d) P 38 [(0, .inr (.inr 66)), (1, .inl x1), (2, .inl x2), (3, .inl x3), (4, .inl (0 : Int))] [] M2 c s))))) : q_At q_m232 (q_WP q_Pr d) P 20 [(0, .inr (.inr 66)), (1, .inl x1), (2, .inl x2), (3, .inl x3)] [] M c s := by
  refine s_232_20 ?_
  rw [lk66 hl]
  refine ⟨rfl, ?_⟩
  refine ⟨?_, ?_⟩
  · replace h := h.1
    intro g
    replace h := h g
    exact h
  · replace h := h.2
    intro g
    replace h := h g
    refine ⟨rfl, ?_⟩
    refine q_WP_mono _ _ _ _ _ _ (fun v1 M2 hh => ?_) h
    obtain ⟨hlM2, h⟩ := hh
    exact h
theorem t_232_38 {d : Nat} {P : Int → qM → Prop} {x1 x2 x3 x4 : Int} {M : qM} {c s : Nat} (hl : q_lay M) (h : (((q_nm M 66 55) ≤ x4 → (q_At q_m232 (q_WP q_Pr d) P 20 [(0, .inr (.inr 66)), (1, .inl x1), (2, .inl x2), (3, .inl (w32 (x3 + 1)))] [] M c s)) ∧ (x4 < (q_nm M 66 55) → ((0 ≤ x4 ∧ x4 < 640) ∧ ((¬ (q_nm M 108 x4) = x2 → (q_At q_m232 (q_WP q_Pr d) P 38 [(0, .inr (.inr 66)), (1, .inl x1), (2, .inl x2), (3, .inl x3), (4, .inl (w32 (x4 + 1)))] [] M c s)) ∧ ((q_nm M 108 x4) = x2 → ((0 ≤ x4 ∧ x4 < 640) ∧ (((q_nm M 118 x4) ≤ 0 → (q_At q_m232 (q_WP q_Pr d) P 38 [(0, .inr (.inr 66)), (1, .inl x1), (2, .inl x2), (3, .inl x3), (4, .inl (w32 (x4 + 1)))] [] M c s)) ∧ (0 < (q_nm M 118 x4) → (P (0 : Int) M)))))))))) : q_At q_m232 (q_WP q_Pr d) P 38 [(0, .inr (.inr 66)), (1, .inl x1), (2, .inl x2), (3, .inl x3), (4, .inl x4)] [] M c s := by
  refine s_232_38 ?_
  rw [lk66 hl, lr66_57 hl, ll108 hl, lk108 hl, lr66_70 hl, ll118 hl, lk118 hl]
  refine ⟨rfl, ?_⟩
  refine ⟨?_, ?_⟩
  · replace h := h.1
    intro g
    replace h := h g
    exact h
  · replace h := h.2
    intro g
    replace h := h g
    refine ⟨rfl, ?_⟩
    refine ⟨⟨rfl, h.1⟩, ?_⟩
    replace h := h.2
    refine ⟨?_, ?_⟩
    · replace h := h.1
      intro g
      replace h := h g
      exact h
    · replace h := h.2
      intro g
      replace h := h g
      refine ⟨rfl, ?_⟩
      refine ⟨⟨rfl, h.1⟩, ?_⟩
      replace h := h.2
      refine ⟨?_, ?_⟩
      · replace h := h.1
        intro g
        replace h := h g
        exact h
      · replace h := h.2
        intro g
        replace h := h g
        exact h
theorem t_233_0 {d : Nat} {P : Int → qM → Prop} {x1 : Int} {M : qM} {c s : Nat} (hl : q_lay M) (h : ((0 ≤ q_nm M 66 40 ∧ q_nm M 66 40 ≤ 12) ∧ ((0 ≤ x1 ∧ x1 < q_nm M 66 40 → (((q_nm M 66 71) = 0 → (P (-1 : Int) M)) ∧ (¬ (q_nm M 66 71) = 0 → ((¬ (q_nm M 66 73) = (20 : Int) → ((0 ≤ (q_nm M 66 73) ∧ (q_nm M 66 73) < 20) ∧ (∀ M3 : qM, M3 = q_wn M 120 (q_nm M 66 73) x1 → q_lay M3 → ((0 ≤ (q_nm M3 66 73) ∧ (q_nm M3 66 73) < 20) ∧ (∀ M4 : qM, M4 = q_wn M3 121 (q_nm M3 66 73) (q_nm M3 66 71) → q_lay M4 → (q_At q_m233 (q_WP q_Pr (d + 2)) P 51 [(0, .inr (.inr 66)), (2, .inl (0 : Int))] [] M4 c s)))))) ∧ ((q_nm M 66 73) = (20 : Int) → (P (-1 : Int) M)))))) ∧ (¬ (0 ≤ x1 ∧ x1 < q_nm M 66 40) → (P (-1 : Int) M))))) : q_At q_m233 (q_WP q_Pr (d + 2)) P 0 [(0, .inr (.inr 66)), (1, .inl x1)] [] M c s := by
  refine s_233_0 ?_
  rw [lk66 hl]
  refine ⟨rfl, ?_⟩
  refine p_164 hl h.1 (fun g => ?_) (fun g => ?_)
  · replace h := h.2.1 g
    rw [lk66 hl, lr66_74 hl, ll120 hl, lk120 hl]
    refine ⟨fun g => absurd g (by decide), fun _ => ?_⟩
    refine ⟨rfl, ?_⟩
    refine ⟨?_, ?_⟩
    · replace h := h.1
      intro g
      replace h := h g
      exact h
    · replace h := h.2
      intro g
      replace h := h g
      refine ⟨rfl, ?_⟩
      refine ⟨?_, ?_⟩
      · replace h := h.1
        intro g
        replace h := h g
        refine ⟨rfl, ?_⟩
        refine ⟨rfl, ?_⟩
        refine ⟨⟨⟨by decide, rfl⟩, h.1⟩, ?_⟩
        replace h := h.2
        intro M3
        have hlM3 : q_lay M3 := q_lay_wn hl
        replace h := h M3 rfl hlM3
        rw [lk66 hlM3, lr66_75 hlM3, ll121 hlM3, lk121 hlM3]
        refine ⟨rfl, ?_⟩
        refine ⟨rfl, ?_⟩
        refine ⟨rfl, ?_⟩
        refine ⟨⟨⟨by decide, rfl⟩, h.1⟩, ?_⟩
        replace h := h.2
        intro M4
        have hlM4 : q_lay M4 := q_lay_wn hlM3
        replace h := h M4 rfl hlM4
        exact h
      · replace h := h.2
        intro g
        replace h := h g
        exact h
  · replace h := h.2.2 g
    rw [lk66 hl, lr66_74 hl, ll120 hl, lk120 hl]
    refine ⟨fun _ => ?_, fun g => absurd g (by decide)⟩
    exact h
theorem t_233_51 {d : Nat} {P : Int → qM → Prop} {x2 : Int} {M : qM} {c s : Nat} (hl : q_lay M) (h : (((q_nm M 66 71) ≤ x2 → (∀ M1 : qM, M1 = q_wn M 66 73 (w32 ((q_nm M 66 73) + (1 : Int))) → q_lay M1 → (P (q_nm M1 66 73) M1))) ∧ (x2 < (q_nm M 66 71) → ((0 ≤ x2 ∧ x2 < 104) ∧ ((0 ≤ (w32 ((w32 ((104 : Int) * (q_nm M 66 73))) + x2)) ∧ (w32 ((w32 ((104 : Int) * (q_nm M 66 73))) + x2)) < 2080) ∧ (∀ M2 : qM, M2 = q_wn M 122 (w32 ((w32 ((104 : Int) * (q_nm M 66 73))) + x2)) (q_nm M 119 x2) → q_lay M2 → (q_At q_m233 (q_WP q_Pr d) P 51 [(0, .inr (.inr 66)), (2, .inl (w32 (x2 + 1)))] [] M2 c s))))))) : q_At q_m233 (q_WP q_Pr d) P 51 [(0, .inr (.inr 66)), (2, .inl x2)] [] M c s := by
  refine s_233_51 ?_
  rw [lk66 hl, lr66_72 hl, ll119 hl, lk119 hl, lr66_76 hl, ll122 hl, lk122 hl]
  refine ⟨rfl, ?_⟩
  refine ⟨?_, ?_⟩
  · replace h := h.1
    intro g
    replace h := h g
    refine ⟨rfl, ?_⟩
    refine ⟨rfl, ?_⟩
    intro M1
    have hlM1 : q_lay M1 := q_lay_wn hl
    replace h := h M1 rfl hlM1
    rw [lk66 hlM1]
    refine ⟨rfl, ?_⟩
    exact h
  · replace h := h.2
    intro g
    replace h := h g
    refine ⟨rfl, ?_⟩
    refine ⟨rfl, ?_⟩
    refine ⟨rfl, ?_⟩
    refine ⟨⟨rfl, h.1⟩, ?_⟩
    replace h := h.2
    refine ⟨⟨⟨by decide, rfl⟩, h.1⟩, ?_⟩
    replace h := h.2
    intro M2
    have hlM2 : q_lay M2 := q_lay_wn hl
    replace h := h M2 rfl hlM2
    exact h
theorem t_234_0 {d : Nat} {P : Int → qM → Prop} {M : qM} {c s : Nat} (hl : q_lay M) (h : ((¬ (q_nm M 66 73) = 0 → (∀ M1 : qM, M1 = q_wn M 66 73 (w32 ((q_nm M 66 73) - (1 : Int))) → q_lay M1 → (P (q_nm M1 66 73) M1))) ∧ ((q_nm M 66 73) = 0 → (P (-1 : Int) M)))) : q_At q_m234 (q_WP q_Pr d) P 0 [(0, .inr (.inr 66))] [] M c s := by
  refine s_234_0 ?_
  rw [lk66 hl]
  refine ⟨rfl, ?_⟩
  refine ⟨?_, ?_⟩
  · replace h := h.1
    intro g
    replace h := h g
    refine ⟨rfl, ?_⟩
    refine ⟨rfl, ?_⟩
    intro M1
    have hlM1 : q_lay M1 := q_lay_wn hl
    replace h := h M1 rfl hlM1
    rw [lk66 hlM1]
    refine ⟨rfl, ?_⟩
    exact h
  · replace h := h.2
    intro g
    replace h := h g
    exact h
theorem t_235_0 {d : Nat} {P : Int → qM → Prop} {x1 : Int} {M : qM} {c s : Nat} (hl : q_lay M) (h : (((0 : Int) ≤ x1 ∧ x1 ≤ (w32 ((q_nm M 66 73) - (1 : Int))) → ((0 ≤ x1 ∧ x1 < 20) ∧ (∀ M3 : qM, M3 = q_wn M 66 71 (q_nm M 121 x1) → q_lay M3 → (q_At q_m235 (q_WP q_Pr (d + 1)) P 30 [(0, .inr (.inr 66)), (1, .inl x1), (2, .inl (0 : Int))] [] M3 c s)))) ∧ (¬ ((0 : Int) ≤ x1 ∧ x1 ≤ (w32 ((q_nm M 66 73) - (1 : Int)))) → (P (-1 : Int) M)))) : q_At q_m235 (q_WP q_Pr (d + 1)) P 0 [(0, .inr (.inr 66)), (1, .inl x1)] [] M c s := by
  refine s_235_0 ?_
  rw [lk66 hl]
  refine ⟨rfl, ?_⟩
  refine p_146 (fun g => ?_) (fun g => ?_)
  · replace h := h.1 g
    rw [lk66 hl, lr66_75 hl, ll121 hl, lk121 hl]
    refine ⟨fun _ => ?_, fun g => absurd g (by decide)⟩
    refine ⟨rfl, ?_⟩
    refine ⟨⟨rfl, h.1⟩, ?_⟩
    replace h := h.2
    refine ⟨rfl, ?_⟩
    intro M3
    have hlM3 : q_lay M3 := q_lay_wn hl
    replace h := h M3 rfl hlM3
    exact h
  · replace h := h.2 g
    rw [lk66 hl, lr66_75 hl, ll121 hl, lk121 hl]
    refine ⟨fun g => absurd g (by decide), fun _ => ?_⟩
    exact h
theorem t_235_30 {d : Nat} {P : Int → qM → Prop} {x1 x2 : Int} {M : qM} {c s : Nat} (hl : q_lay M) (h : (((q_nm M 66 71) ≤ x2 → ((0 ≤ x1 ∧ x1 < 20) ∧ (P (q_nm M 120 x1) M))) ∧ (x2 < (q_nm M 66 71) → ((0 ≤ (w32 ((w32 ((104 : Int) * x1)) + x2)) ∧ (w32 ((w32 ((104 : Int) * x1)) + x2)) < 2080) ∧ ((0 ≤ x2 ∧ x2 < 104) ∧ (∀ M1 : qM, M1 = q_wn M 119 x2 (q_nm M 122 (w32 ((w32 ((104 : Int) * x1)) + x2))) → q_lay M1 → (q_At q_m235 (q_WP q_Pr d) P 30 [(0, .inr (.inr 66)), (1, .inl x1), (2, .inl (w32 (x2 + 1)))] [] M1 c s))))))) : q_At q_m235 (q_WP q_Pr d) P 30 [(0, .inr (.inr 66)), (1, .inl x1), (2, .inl x2)] [] M c s := by
  refine s_235_30 ?_
  rw [lk66 hl, lr66_74 hl, ll120 hl, lk120 hl, lr66_76 hl, ll122 hl, lk122 hl, lr66_72 hl, ll119 hl, lk119 hl]
  refine ⟨rfl, ?_⟩
  refine ⟨?_, ?_⟩
  · replace h := h.1
    intro g
    replace h := h g
    refine ⟨rfl, ?_⟩
    refine ⟨⟨rfl, h.1⟩, ?_⟩
    replace h := h.2
    exact h
  · replace h := h.2
    intro g
    replace h := h g
    refine ⟨rfl, ?_⟩
    refine ⟨rfl, ?_⟩
    refine ⟨⟨rfl, h.1⟩, ?_⟩
    replace h := h.2
    refine ⟨⟨⟨by decide, rfl⟩, h.1⟩, ?_⟩
    replace h := h.2
    intro M1
    have hlM1 : q_lay M1 := q_lay_wn hl
    replace h := h M1 rfl hlM1
    exact h
theorem t_236_0 {d : Nat} {P : Int → qM → Prop} {x1 x2 : Int} {M : qM} {c s : Nat} (hl : q_lay M) (h : ((0 ≤ x2 ∧ x2 < 20) ∧ q_WP q_Pr d 223 [.inr (.inr 66), .inl x1, .inr (.inr 122), .inl (w32 ((104 : Int) * x2)), .inl (q_nm M 121 x2)] M (fun v1 M2 => q_lay M2 ∧ ((0 ≤ v1 ∧ v1 ≤ 1) ∧ (P v1 M2))))) : q_At q_m236 (q_WP q_Pr d) P 0 [(0, .inr (.inr 66)), (1, .inl x1), (2, .inl x2)] [] M c s := by
  refine s_236_0 ?_
  rw [lk66 hl, lr66_75 hl, ll121 hl, lk121 hl, lr66_76 hl]
  refine ⟨rfl, ?_⟩
  refine ⟨rfl, ?_⟩
  refine ⟨⟨rfl, h.1⟩, ?_⟩
  replace h := h.2
  refine ⟨rfl, ?_⟩
  refine q_WP_mono _ _ _ _ _ _ (fun v1 M2 hh => ?_) h
  obtain ⟨hlM2, h⟩ := hh
  refine ⟨h.1, ?_⟩
  replace h := h.2
  exact h
theorem t_237_0 {d : Nat} {P : Int → qM → Prop} {x1 x2 : Int} {M : qM} {c s : Nat} (hl : q_lay M) (h : ((0 ≤ x1 ∧ x1 < 20) ∧ q_WP q_Pr d 215 [.inr (.inr 66), .inl (q_nm M 120 x1), .inl x2] M (fun v1 M2 => q_lay M2 ∧ (∀ M3 : qM, M3 = q_wn M2 66 77 v1 → q_lay M3 → (q_At q_m237 (q_WP q_Pr d) P 20 [(0, .inr (.inr 66)), (1, .inl x1), (3, .inl (0 : Int)), (4, .inl (0 : Int))] [] M3 c s))))) : q_At q_m237 (q_WP q_Pr d) P 0 [(0, .inr (.inr 66)), (1, .inl x1), (2, .inl x2)] [] M c s := by
  refine s_237_0 ?_
  rw [lk66 hl, lr66_74 hl, ll120 hl, lk120 hl]
  refine ⟨rfl, ?_⟩
  refine ⟨⟨rfl, h.1⟩, ?_⟩
  replace h := h.2
  refine ⟨rfl, ?_⟩
  refine q_WP_mono _ _ _ _ _ _ (fun v1 M2 hh => ?_) h
  obtain ⟨hlM2, h⟩ := hh
  rw [lk66 hlM2]
  refine ⟨rfl, ?_⟩
  intro M3
  have hlM3 : q_lay M3 := q_lay_wn hlM2
  replace h := h M3 rfl hlM3
  exact h
theorem t_237_20 {d : Nat} {P : Int → qM → Prop} {x1 x3 x4 : Int} {M : qM} {c s : Nat} (hl : q_lay M) (h : (((q_nm M 66 55) ≤ x4 → (P x3 M)) ∧ (x4 < (q_nm M 66 55) → q_WP q_Pr d 236 [.inr (.inr 66), .inl x4, .inl x1] M (fun v1 M2 => q_lay M2 ∧ ((v1 = 0 → (q_At q_m237 (q_WP q_Pr d) P 20 [(0, .inr (.inr 66)), (1, .inl x1), (3, .inl x3), (4, .inl (w32 (x4 + 1)))] [] M2 c s)) ∧ (¬ v1 = 0 → ((0 ≤ x4 ∧ x4 < 640) ∧ (q_At q_m237 (q_WP q_Pr d) P 20 [(0, .inr (.inr 66)), (1, .inl x1), (3, .inl (w32 (x3 + (q_nm M2 118 x4)))), (4, .inl (w32 (x4 + 1)))] [] M2 c s)))))))) : q_At q_m237 (q_WP q_Pr d) P 20 [(0, .inr (.inr 66)), (1, .inl x1), (3, .inl x3), (4, .inl x4)] [] M c s := by
  refine s_237_20 ?_
  rw [lk66 hl]
  refine ⟨rfl, ?_⟩
  refine ⟨?_, ?_⟩
  · replace h := h.1
    intro g
    replace h := h g
    exact h
  · replace h := h.2
    intro g
    replace h := h g
    refine ⟨rfl, ?_⟩
    refine q_WP_mono _ _ _ _ _ _ (fun v1 M2 hh => ?_) h
    obtain ⟨hlM2, h⟩ := hh
    rw [lk66 hlM2, lr66_70 hlM2, ll118 hlM2, lk118 hlM2]
    refine ⟨?_, ?_⟩
    · replace h := h.1
      intro g
      replace h := h g
      exact h
    · replace h := h.2
      intro g
      replace h := h g
      refine ⟨rfl, ?_⟩
      refine ⟨⟨rfl, h.1⟩, ?_⟩
      replace h := h.2
      exact h
theorem t_238_0 {d : Nat} {P : Int → qM → Prop} {x1 : Int} {M : qM} {c s : Nat} (hl : q_lay M) (h : (((0 ≤ x1 ∧ x1 ≤ 3) ∧ ¬ q_nm M 100 x1 = 0 → (q_At q_m238 (q_WP q_Pr (d + 2)) P 12 [(0, .inr (.inr 66)), (1, .inl x1), (2, .inl (0 : Int))] [] M c s)) ∧ (¬ ((0 ≤ x1 ∧ x1 ≤ 3) ∧ ¬ q_nm M 100 x1 = 0) → (P (-1 : Int) M)))) : q_At q_m238 (q_WP q_Pr (d + 2)) P 0 [(0, .inr (.inr 66)), (1, .inl x1)] [] M c s := by
  refine s_238_0 ?_
  rw [lk66 hl]
  refine ⟨rfl, ?_⟩
  refine p_216 hl (fun g => ?_) (fun g => ?_)
  · replace h := h.1 g
    refine ⟨fun _ => ?_, fun g => absurd g (by decide)⟩
    exact h
  · replace h := h.2 g
    refine ⟨fun g => absurd g (by decide), fun _ => ?_⟩
    exact h
theorem t_238_12 {d : Nat} {P : Int → qM → Prop} {x1 x2 : Int} {M : qM} {c s : Nat} (hl : q_lay M) (h : (((q_nm M 66 73) ≤ x2 → (P (-1 : Int) M)) ∧ (x2 < (q_nm M 66 73) → q_WP q_Pr d 237 [.inr (.inr 66), .inl x2, .inl x1] M (fun v1 M2 => q_lay M2 ∧ ((¬ v1 = 0 → (q_At q_m238 (q_WP q_Pr d) P 12 [(0, .inr (.inr 66)), (1, .inl x1), (2, .inl (w32 (x2 + 1)))] [] M2 c s)) ∧ (v1 = 0 → (P x2 M2))))))) : q_At q_m238 (q_WP q_Pr d) P 12 [(0, .inr (.inr 66)), (1, .inl x1), (2, .inl x2)] [] M c s := by
  refine s_238_12 ?_
  rw [lk66 hl]
  refine ⟨rfl, ?_⟩
  refine ⟨?_, ?_⟩
  · replace h := h.1
    intro g
    replace h := h g
    exact h
  · replace h := h.2
    intro g
    replace h := h g
    refine ⟨rfl, ?_⟩
    refine q_WP_mono _ _ _ _ _ _ (fun v1 M2 hh => ?_) h
    obtain ⟨hlM2, h⟩ := hh
    refine ⟨?_, ?_⟩
    · replace h := h.1
      intro g
      replace h := h g
      exact h
    · replace h := h.2
      intro g
      replace h := h g
      exact h
theorem t_239_0 {d : Nat} {P : Int → qM → Prop} {x1 x2 : Int} {M : qM} {c s : Nat} (hl : q_lay M) (h : (((0 ≤ x1 ∧ x1 ≤ 3) ∧ ¬ q_nm M 100 x1 = 0 → (((0 ≤ x2 ∧ x2 ≤ 3) ∧ ¬ q_nm M 100 x2 = 0 → (q_At q_m239 (q_WP q_Pr (d + 2)) P 23 [(0, .inr (.inr 66)), (1, .inl x1), (2, .inl x2), (3, .inl (0 : Int)), (4, .inl (0 : Int))] [] M c s)) ∧ (¬ ((0 ≤ x2 ∧ x2 ≤ 3) ∧ ¬ q_nm M 100 x2 = 0) → (P (-1 : Int) M)))) ∧ (¬ ((0 ≤ x1 ∧ x1 ≤ 3) ∧ ¬ q_nm M 100 x1 = 0) → (P (-1 : Int) M)))) : q_At q_m239 (q_WP q_Pr (d + 2)) P 0 [(0, .inr (.inr 66)), (1, .inl x1), (2, .inl x2)] [] M c s := by
  refine s_239_0 ?_
  rw [lk66 hl]
  refine ⟨rfl, ?_⟩
  refine p_216 hl (fun g => ?_) (fun g => ?_)
  · replace h := h.1 g
    rw [lk66 hl]
    refine ⟨fun g => absurd g (by decide), fun _ => ?_⟩
    refine ⟨rfl, ?_⟩
    refine p_216 hl (fun g => ?_) (fun g => ?_)
    · replace h := h.1 g
      refine ⟨fun _ => ?_, fun g => absurd g (by decide)⟩
      exact h
    · replace h := h.2 g
      refine ⟨fun g => absurd g (by decide), fun _ => ?_⟩
      exact h
  · replace h := h.2 g
    rw [lk66 hl]
    refine ⟨fun _ => ?_, fun g => absurd g (by decide)⟩
    exact h
theorem t_239_23 {d : Nat} {P : Int → qM → Prop} {x1 x2 x3 x4 : Int} {M : qM} {c s : Nat} (hl : q_lay M) (h : (((q_nm M 66 73) ≤ x4 → (P x3 M)) ∧ (x4 < (q_nm M 66 73) → q_WP q_Pr d 237 [.inr (.inr 66), .inl x4, .inl x1] M (fun v1 M2 => q_lay M2 ∧ ((¬ (q_nm M2 66 77) = 0 → q_WP q_Pr d 237 [.inr (.inr 66), .inl x4, .inl x2] M2 (fun v3 M4 => q_lay M4 ∧ ((¬ (q_nm M4 66 77) = 0 → (((q_lc (w64 (v1 * (q_nm M4 66 77))) (w64 (v3 * (q_nm M2 66 77)))) ≤ 0 → (q_At q_m239 (q_WP q_Pr d) P 23 [(0, .inr (.inr 66)), (1, .inl x1), (2, .inl x2), (3, .inl x3), (4, .inl (w32 (x4 + 1)))] [] M4 c s)) ∧ (0 < (q_lc (w64 (v1 * (q_nm M4 66 77))) (w64 (v3 * (q_nm M2 66 77)))) → (q_At q_m239 (q_WP q_Pr d) P 23 [(0, .inr (.inr 66)), (1, .inl x1), (2, .inl x2), (3, .inl (w32 (x3 + 1))), (4, .inl (w32 (x4 + 1)))] [] M4 c s)))) ∧ ((q_nm M4 66 77) = 0 → (((q_lc (w64 (v1 * (1 : Int))) (w64 (v3 * (q_nm M2 66 77)))) ≤ 0 → (q_At q_m239 (q_WP q_Pr d) P 23 [(0, .inr (.inr 66)), (1, .inl x1), (2, .inl x2), (3, .inl x3), (4, .inl (w32 (x4 + 1)))] [] M4 c s)) ∧ (0 < (q_lc (w64 (v1 * (1 : Int))) (w64 (v3 * (q_nm M2 66 77)))) → (q_At q_m239 (q_WP q_Pr d) P 23 [(0, .inr (.inr 66)), (1, .inl x1), (2, .inl x2), (3, .inl (w32 (x3 + 1))), (4, .inl (w32 (x4 + 1)))] [] M4 c s))))))) ∧ ((q_nm M2 66 77) = 0 → q_WP q_Pr d 237 [.inr (.inr 66), .inl x4, .inl x2] M2 (fun v5 M6 => q_lay M6 ∧ ((¬ (q_nm M6 66 77) = 0 → (((q_lc (w64 (v1 * (q_nm M6 66 77))) (w64 (v5 * (1 : Int)))) ≤ 0 → (q_At q_m239 (q_WP q_Pr d) P 23 [(0, .inr (.inr 66)), (1, .inl x1), (2, .inl x2), (3, .inl x3), (4, .inl (w32 (x4 + 1)))] [] M6 c s)) ∧ (0 < (q_lc (w64 (v1 * (q_nm M6 66 77))) (w64 (v5 * (1 : Int)))) → (q_At q_m239 (q_WP q_Pr d) P 23 [(0, .inr (.inr 66)), (1, .inl x1), (2, .inl x2), (3, .inl (w32 (x3 + 1))), (4, .inl (w32 (x4 + 1)))] [] M6 c s)))) ∧ ((q_nm M6 66 77) = 0 → (((q_lc (w64 (v1 * (1 : Int))) (w64 (v5 * (1 : Int)))) ≤ 0 → (q_At q_m239 (q_WP q_Pr d) P 23 [(0, .inr (.inr 66)), (1, .inl x1), (2, .inl x2), (3, .inl x3), (4, .inl (w32 (x4 + 1)))] [] M6 c s)) ∧ (0 < (q_lc (w64 (v1 * (1 : Int))) (w64 (v5 * (1 : Int)))) → (q_At q_m239 (q_WP q_Pr d) P 23 [(0, .inr (.inr 66)), (1, .inl x1), (2, .inl x2), (3, .inl (w32 (x3 + 1))), (4, .inl (w32 (x4 + 1)))] [] M6 c s)))))))))))) : q_At q_m239 (q_WP q_Pr d) P 23 [(0, .inr (.inr 66)), (1, .inl x1), (2, .inl x2), (3, .inl x3), (4, .inl x4)] [] M c s := by
  refine s_239_23 ?_
  rw [lk66 hl]
  refine ⟨rfl, ?_⟩
  refine ⟨?_, ?_⟩
  · replace h := h.1
    intro g
    replace h := h g
    exact h
  · replace h := h.2
    intro g
    replace h := h g
    refine ⟨rfl, ?_⟩
    refine q_WP_mono _ _ _ _ _ _ (fun v1 M2 hh => ?_) h
    obtain ⟨hlM2, h⟩ := hh
    rw [lk66 hlM2]
    refine ⟨rfl, ?_⟩
    refine ⟨?_, ?_⟩
    · replace h := h.1
      intro g
      replace h := h g
      refine ⟨rfl, ?_⟩
      refine ⟨rfl, ?_⟩
      refine q_WP_mono _ _ _ _ _ _ (fun v3 M4 hh => ?_) h
      obtain ⟨hlM4, h⟩ := hh
      rw [lk66 hlM4]
      refine ⟨rfl, ?_⟩
      refine ⟨?_, ?_⟩
      · replace h := h.1
        intro g
        replace h := h g
        refine ⟨rfl, ?_⟩
        refine ⟨?_, ?_⟩
        · replace h := h.1
          intro g
          replace h := h g
          exact h
        · replace h := h.2
          intro g
          replace h := h g
          exact h
      · replace h := h.2
        intro g
        replace h := h g
        refine ⟨?_, ?_⟩
        · replace h := h.1
          intro g
          replace h := h g
          exact h
        · replace h := h.2
          intro g
          replace h := h g
          exact h
    · replace h := h.2
      intro g
      replace h := h g
      refine ⟨rfl, ?_⟩
      refine q_WP_mono _ _ _ _ _ _ (fun v5 M6 hh => ?_) h
      obtain ⟨hlM6, h⟩ := hh
      rw [lk66 hlM6]
      refine ⟨rfl, ?_⟩
      refine ⟨?_, ?_⟩
      · replace h := h.1
        intro g
        replace h := h g
        refine ⟨rfl, ?_⟩
        refine ⟨?_, ?_⟩
        · replace h := h.1
          intro g
          replace h := h g
          exact h
        · replace h := h.2
          intro g
          replace h := h g
          exact h
      · replace h := h.2
        intro g
        replace h := h g
        refine ⟨?_, ?_⟩
        · replace h := h.1
          intro g
          replace h := h g
          exact h
        · replace h := h.2
          intro g
          replace h := h g
          exact h
theorem t_240_0 {d : Nat} {P : Int → qM → Prop} {x1 : Int} {M : qM} {c s : Nat} (hl : q_lay M) (h : ((0 ≤ x1 ∧ x1 ≤ 8 → (q_At q_m240 (q_WP q_Pr (d + 2)) P 14 [(0, .inr (.inr 66)), (1, .inl x1), (2, .inl (0 : Int)), (3, .inl (0 : Int))] [] M c s)) ∧ (¬ (0 ≤ x1 ∧ x1 ≤ 8) → (P (-1 : Int) M)))) : q_At q_m240 (q_WP q_Pr (d + 2)) P 0 [(0, .inr (.inr 66)), (1, .inl x1)] [] M c s := by
  refine s_240_0 ?_
  rw [lk66 hl]
  refine ⟨rfl, ?_⟩
  refine p_165 (fun g => ?_) (fun g => ?_)
  · replace h := h.1 g
    refine ⟨fun _ => ?_, fun g => absurd g (by decide)⟩
    exact h
  · replace h := h.2 g
    refine ⟨fun g => absurd g (by decide), fun _ => ?_⟩
    exact h
theorem t_240_14 {d : Nat} {P : Int → qM → Prop} {x1 x2 x3 : Int} {M : qM} {c s : Nat} (hl : q_lay M) (h : (((q_nm M 66 73) ≤ x3 → (P x2 M)) ∧ (x3 < (q_nm M 66 73) → ((0 ≤ x3 ∧ x3 < 20) ∧ q_WP q_Pr d 201 [.inr (.inr 66), .inl (q_nm M 120 x3)] M (fun v1 M2 => q_lay M2 ∧ (q_At q_m240 (q_WP q_Pr d) P 38 [(0, .inr (.inr 66)), (1, .inl x1), (2, .inl x2), (3, .inl x3), (4, .inl (0 : Int)), (5, .inl (0 : Int))] [] M2 c s)))))) : q_At q_m240 (q_WP q_Pr d) P 14 [(0, .inr (.inr 66)), (1, .inl x1), (2, .inl x2), (3, .inl x3)] [] M c s := by
  refine s_240_14 ?_
  rw [lk66 hl, lr66_74 hl, ll120 hl, lk120 hl]
  refine ⟨rfl, ?_⟩
  refine ⟨?_, ?_⟩
  · replace h := h.1
    intro g
    replace h := h g
    exact h
  · replace h := h.2
    intro g
    replace h := h g
    refine ⟨rfl, ?_⟩
    refine ⟨⟨rfl, h.1⟩, ?_⟩
    replace h := h.2
    refine ⟨rfl, ?_⟩
    refine q_WP_mono _ _ _ _ _ _ (fun v1 M2 hh => ?_) h
    obtain ⟨hlM2, h⟩ := hh
    exact h
theorem t_240_38 {d : Nat} {P : Int → qM → Prop} {x1 x2 x3 x4 x5 : Int} {M : qM} {c s : Nat} (hl : q_lay M) (h : (((q_nm M 66 55) ≤ x5 → ((x4 = 0 → (q_At q_m240 (q_WP q_Pr d) P 14 [(0, .inr (.inr 66)), (1, .inl x1), (2, .inl x2), (3, .inl (w32 (x3 + 1)))] [] M c s)) ∧ (¬ x4 = 0 → (q_At q_m240 (q_WP q_Pr d) P 14 [(0, .inr (.inr 66)), (1, .inl x1), (2, .inl (w32 (x2 + 1))), (3, .inl (w32 (x3 + 1)))] [] M c s)))) ∧ (x5 < (q_nm M 66 55) → ((¬ x4 = 0 → ((x4 = 0 → (q_At q_m240 (q_WP q_Pr d) P 14 [(0, .inr (.inr 66)), (1, .inl x1), (2, .inl x2), (3, .inl (w32 (x3 + 1)))] [] M c s)) ∧ (¬ x4 = 0 → (q_At q_m240 (q_WP q_Pr d) P 14 [(0, .inr (.inr 66)), (1, .inl x1), (2, .inl (w32 (x2 + 1))), (3, .inl (w32 (x3 + 1)))] [] M c s)))) ∧ (x4 = 0 → ((0 ≤ x5 ∧ x5 < 640) ∧ ((¬ (q_nm M 108 x5) = x1 → (q_At q_m240 (q_WP q_Pr d) P 38 [(0, .inr (.inr 66)), (1, .inl x1), (2, .inl x2), (3, .inl x3), (4, .inl (0 : Int)), (5, .inl (w32 (x5 + 1)))] [] M c s)) ∧ ((q_nm M 108 x5) = x1 → q_WP q_Pr d 236 [.inr (.inr 66), .inl x5, .inl x3] M (fun v1 M2 => q_lay M2 ∧ ((v1 = 0 → (q_At q_m240 (q_WP q_Pr d) P 38 [(0, .inr (.inr 66)), (1, .inl x1), (2, .inl x2), (3, .inl x3), (4, .inl (0 : Int)), (5, .inl (w32 (x5 + 1)))] [] M2 c s)) ∧ (¬ v1 = 0 → (q_At q_m240 (q_WP q_Pr d) P 38 [(0, .inr (.inr 66)), (1, .inl x1), (2, .inl x2), (3, .inl x3), (4, .inl (1 : Int)), (5, .inl (w32 (x5 + 1)))] [] M2 c s)))))))))))) : q_At q_m240 (q_WP q_Pr d) P 38 [(0, .inr (.inr 66)), (1, .inl x1), (2, .inl x2), (3, .inl x3), (4, .inl x4), (5, .inl x5)] [] M c s := by
  refine s_240_38 ?_
  rw [lk66 hl, lr66_57 hl, ll108 hl, lk108 hl]
  refine ⟨rfl, ?_⟩
  refine ⟨?_, ?_⟩
  · replace h := h.1
    intro g
    replace h := h g
    refine ⟨?_, ?_⟩
    · replace h := h.1
      intro g
      replace h := h g
      exact h
    · replace h := h.2
      intro g
      replace h := h g
      exact h
  · replace h := h.2
    intro g
    replace h := h g
    refine ⟨?_, ?_⟩
    · replace h := h.1
      intro g
      replace h := h g
      refine ⟨?_, ?_⟩
      · replace h := h.1
        intro g
        replace h := h g
        exact h
      · replace h := h.2
        intro g
        replace h := h g
        exact h
    · replace h := h.2
      intro g
      replace h := h g
      refine ⟨rfl, ?_⟩
      refine ⟨⟨rfl, h.1⟩, ?_⟩
      replace h := h.2
      refine ⟨?_, ?_⟩
      · replace h := h.1
        intro g
        replace h := h g
        exact h
      · replace h := h.2
        intro g
        replace h := h g
        refine ⟨rfl, ?_⟩
        refine q_WP_mono _ _ _ _ _ _ (fun v1 M2 hh => ?_) h
        obtain ⟨hlM2, h⟩ := hh
        refine ⟨?_, ?_⟩
        · replace h := h.1
          intro g
          replace h := h g
          exact h
        · replace h := h.2
          intro g
          replace h := h g
          exact h
theorem t_241_0 {d : Nat} {P : Int → qM → Prop} {x1 : Int} {M : qM} {c s : Nat} (hl : q_lay M) (h : (q_At q_m241 (q_WP q_Pr d) P 4 [(0, .inr (.inr 66)), (1, .inl x1), (2, .inl (-1 : Int)), (3, .inl (0 : Int))] [] M c s)) : q_At q_m241 (q_WP q_Pr d) P 0 [(0, .inr (.inr 66)), (1, .inl x1)] [] M c s := by
  refine s_241_0 ?_
  exact h
theorem t_241_4 {d : Nat} {P : Int → qM → Prop} {x1 x2 x3 : Int} {M : qM} {c s : Nat} (hl : q_lay M) (h : (((q_nm M 66 73) ≤ x3 → (P x2 M)) ∧ (x3 < (q_nm M 66 73) → ((0 ≤ x3 ∧ x3 < 20) ∧ q_WP q_Pr d 201 [.inr (.inr 66), .inl (q_nm M 120 x3)] M (fun v1 M2 => q_lay M2 ∧ (q_At q_m241 (q_WP q_Pr d) P 28 [(0, .inr (.inr 66)), (1, .inl x1), (2, .inl x2), (3, .inl x3), (4, .inl (-1 : Int)), (5, .inl (0 : Int))] [] M2 c s)))))) : q_At q_m241 (q_WP q_Pr d) P 4 [(0, .inr (.inr 66)), (1, .inl x1), (2, .inl x2), (3, .inl x3)] [] M c s := by
  refine s_241_4 ?_
  rw [lk66 hl, lr66_74 hl, ll120 hl, lk120 hl]
  refine ⟨rfl, ?_⟩
  refine ⟨?_, ?_⟩
  · replace h := h.1
    intro g
    replace h := h g
    exact h
  · replace h := h.2
    intro g
    replace h := h g
    refine ⟨rfl, ?_⟩
    refine ⟨⟨rfl, h.1⟩, ?_⟩
    replace h := h.2
    refine ⟨rfl, ?_⟩
    refine q_WP_mono _ _ _ _ _ _ (fun v1 M2 hh => ?_) h
    obtain ⟨hlM2, h⟩ := hh
    exact h
theorem t_241_28 {d : Nat} {P : Int → qM → Prop} {x1 x2 x3 x4 x5 : Int} {M : qM} {c s : Nat} (hl : q_lay M) (h : (((q_nm M 66 55) ≤ x5 → ((¬ x4 = (-1 : Int) → ((x2 = (-1 : Int) → (q_At q_m241 (q_WP q_Pr d) P 138 [(0, .inr (.inr 66)), (1, .inl x1), (2, .inl x4), (3, .inl x3)] [] M c s)) ∧ (¬ x2 = (-1 : Int) → ((x1 = 0 → ((x2 ≤ x4 → (q_At q_m241 (q_WP q_Pr d) P 138 [(0, .inr (.inr 66)), (1, .inl x1), (2, .inl x2), (3, .inl x3)] [] M c s)) ∧ (x4 < x2 → (q_At q_m241 (q_WP q_Pr d) P 138 [(0, .inr (.inr 66)), (1, .inl x1), (2, .inl x4), (3, .inl x3)] [] M c s)))) ∧ (¬ x1 = 0 → ((x4 ≤ x2 → (q_At q_m241 (q_WP q_Pr d) P 138 [(0, .inr (.inr 66)), (1, .inl x1), (2, .inl x2), (3, .inl x3)] [] M c s)) ∧ (x2 < x4 → (q_At q_m241 (q_WP q_Pr d) P 138 [(0, .inr (.inr 66)), (1, .inl x1), (2, .inl x4), (3, .inl x3)] [] M c s)))))))) ∧ (x4 = (-1 : Int) → (q_At q_m241 (q_WP q_Pr d) P 138 [(0, .inr (.inr 66)), (1, .inl x1), (2, .inl x2), (3, .inl x3)] [] M c s)))) ∧ (x5 < (q_nm M 66 55) → ((0 ≤ x5 ∧ x5 < 640) ∧ (((q_nm M 108 x5) = (1 : Int) → ((x4 = (-1 : Int) → (q_At q_m241 (q_WP q_Pr d) P 77 [(0, .inr (.inr 66)), (1, .inl x1), (2, .inl x2), (3, .inl x3), (4, .inl x4), (5, .inl x5)] [] M c s)) ∧ (¬ x4 = (-1 : Int) → ((0 ≤ x5 ∧ x5 < 640) ∧ ((x4 ≤ (q_nm M 113 x5) → (q_At q_m241 (q_WP q_Pr d) P 96 [(0, .inr (.inr 66)), (1, .inl x1), (2, .inl x2), (3, .inl x3), (4, .inl x4), (5, .inl x5)] [] M c s)) ∧ ((q_nm M 113 x5) < x4 → (q_At q_m241 (q_WP q_Pr d) P 77 [(0, .inr (.inr 66)), (1, .inl x1), (2, .inl x2), (3, .inl x3), (4, .inl x4), (5, .inl x5)] [] M c s))))))) ∧ (¬ (q_nm M 108 x5) = (1 : Int) → ((0 ≤ x5 ∧ x5 < 640) ∧ ((¬ (q_nm M 108 x5) = (3 : Int) → (q_At q_m241 (q_WP q_Pr d) P 96 [(0, .inr (.inr 66)), (1, .inl x1), (2, .inl x2), (3, .inl x3), (4, .inl x4), (5, .inl x5)] [] M c s)) ∧ ((q_nm M 108 x5) = (3 : Int) → ((x4 = (-1 : Int) → (q_At q_m241 (q_WP q_Pr d) P 77 [(0, .inr (.inr 66)), (1, .inl x1), (2, .inl x2), (3, .inl x3), (4, .inl x4), (5, .inl x5)] [] M c s)) ∧ (¬ x4 = (-1 : Int) → ((0 ≤ x5 ∧ x5 < 640) ∧ ((x4 ≤ (q_nm M 113 x5) → (q_At q_m241 (q_WP q_Pr d) P 96 [(0, .inr (.inr 66)), (1, .inl x1), (2, .inl x2), (3, .inl x3), (4, .inl x4), (5, .inl x5)] [] M c s)) ∧ ((q_nm M 113 x5) < x4 → (q_At q_m241 (q_WP q_Pr d) P 77 [(0, .inr (.inr 66)), (1, .inl x1), (2, .inl x2), (3, .inl x3), (4, .inl x4), (5, .inl x5)] [] M c s))))))))))))))) : q_At q_m241 (q_WP q_Pr d) P 28 [(0, .inr (.inr 66)), (1, .inl x1), (2, .inl x2), (3, .inl x3), (4, .inl x4), (5, .inl x5)] [] M c s := by
  refine s_241_28 ?_
  rw [lk66 hl, lr66_57 hl, ll108 hl, lk108 hl, lr66_62 hl, ll113 hl, lk113 hl]
  refine ⟨rfl, ?_⟩
  refine ⟨?_, ?_⟩
  · replace h := h.1
    intro g
    replace h := h g
    refine ⟨?_, ?_⟩
    · replace h := h.1
      intro g
      replace h := h g
      refine ⟨?_, ?_⟩
      · replace h := h.1
        intro g
        replace h := h g
        exact h
      · replace h := h.2
        intro g
        replace h := h g
        refine ⟨?_, ?_⟩
        · replace h := h.1
          intro g
          replace h := h g
          refine ⟨?_, ?_⟩
          · replace h := h.1
            intro g
            replace h := h g
            exact h
          · replace h := h.2
            intro g
            replace h := h g
            exact h
        · replace h := h.2
          intro g
          replace h := h g
          refine ⟨?_, ?_⟩
          · replace h := h.1
            intro g
            replace h := h g
            exact h
          · replace h := h.2
            intro g
            replace h := h g
            exact h
    · replace h := h.2
      intro g
      replace h := h g
      exact h
  · replace h := h.2
    intro g
    replace h := h g
    refine ⟨rfl, ?_⟩
    refine ⟨⟨rfl, h.1⟩, ?_⟩
    replace h := h.2
    refine ⟨?_, ?_⟩
    · replace h := h.1
      intro g
      replace h := h g
      refine ⟨?_, ?_⟩
      · replace h := h.1
        intro g
        replace h := h g
        exact h
      · replace h := h.2
        intro g
        replace h := h g
        refine ⟨rfl, ?_⟩
        refine ⟨⟨rfl, h.1⟩, ?_⟩
        replace h := h.2
        refine ⟨?_, ?_⟩
        · replace h := h.1
          intro g
          replace h := h g
          exact h
        · replace h := h.2
          intro g
          replace h := h g
          exact h
    · replace h := h.2
      intro g
      replace h := h g
      refine ⟨rfl, ?_⟩
      refine ⟨⟨rfl, h.1⟩, ?_⟩
      replace h := h.2
      refine ⟨?_, ?_⟩
      · replace h := h.1
        intro g
        replace h := h g
        exact h
      · replace h := h.2
        intro g
        replace h := h g
        refine ⟨?_, ?_⟩
        · replace h := h.1
          intro g
          replace h := h g
          exact h
        · replace h := h.2
          intro g
          replace h := h g
          refine ⟨rfl, ?_⟩
          refine ⟨⟨rfl, h.1⟩, ?_⟩
          replace h := h.2
          refine ⟨?_, ?_⟩
          · replace h := h.1
            intro g
            replace h := h g
            exact h
          · replace h := h.2
            intro g
            replace h := h g
            exact h
theorem t_241_77 {d : Nat} {P : Int → qM → Prop} {x1 x2 x3 x4 x5 : Int} {M : qM} {c s : Nat} (hl : q_lay M) (h : q_WP q_Pr d 236 [.inr (.inr 66), .inl x5, .inl x3] M (fun v1 M2 => q_lay M2 ∧ ((v1 = 0 → (q_At q_m241 (q_WP q_Pr d) P 96 [(0, .inr (.inr 66)), (1, .inl x1), (2, .inl x2), (3, .inl x3), (4, .inl x4), (5, .inl x5)] [] M2 c s)) ∧ (¬ v1 = 0 → ((0 ≤ x5 ∧ x5 < 640) ∧ (q_At q_m241 (q_WP q_Pr d) P 96 [(0, .inr (.inr 66)), (1, .inl x1), (2, .inl x2), (3, .inl x3), (4, .inl (q_nm M2 113 x5)), (5, .inl x5)] [] M2 c s)))))) : q_At q_m241 (q_WP q_Pr d) P 77 [(0, .inr (.inr 66)), (1, .inl x1), (2, .inl x2), (3, .inl x3), (4, .inl x4), (5, .inl x5)] [] M c s := by
  refine s_241_77 ?_
  rw [lk66 hl]
  refine ⟨rfl, ?_⟩
  refine q_WP_mono _ _ _ _ _ _ (fun v1 M2 hh => ?_) h
  obtain ⟨hlM2, h⟩ := hh
  rw [lk66 hlM2, lr66_62 hlM2, ll113 hlM2, lk113 hlM2]
  refine ⟨?_, ?_⟩
  · replace h := h.1
    intro g
    replace h := h g
    exact h
  · replace h := h.2
    intro g
    replace h := h g
    refine ⟨rfl, ?_⟩
    refine ⟨⟨rfl, h.1⟩, ?_⟩
    replace h := h.2
    exact h
theorem t_241_96 {d : Nat} {P : Int → qM → Prop} {x1 x2 x3 x4 x5 : Int} {M : qM} {c s : Nat} (hl : q_lay M) (h : (q_At q_m241 (q_WP q_Pr d) P 28 [(0, .inr (.inr 66)), (1, .inl x1), (2, .inl x2), (3, .inl x3), (4, .inl x4), (5, .inl (w32 (x5 + 1)))] [] M c s)) : q_At q_m241 (q_WP q_Pr d) P 96 [(0, .inr (.inr 66)), (1, .inl x1), (2, .inl x2), (3, .inl x3), (4, .inl x4), (5, .inl x5)] [] M c s := by
  refine s_241_96 ?_
  exact h
theorem t_241_138 {d : Nat} {P : Int → qM → Prop} {x1 x2 x3 : Int} {M : qM} {c s : Nat} (hl : q_lay M) (h : (q_At q_m241 (q_WP q_Pr d) P 4 [(0, .inr (.inr 66)), (1, .inl x1), (2, .inl x2), (3, .inl (w32 (x3 + 1)))] [] M c s)) : q_At q_m241 (q_WP q_Pr d) P 138 [(0, .inr (.inr 66)), (1, .inl x1), (2, .inl x2), (3, .inl x3)] [] M c s := by
  refine s_241_138 ?_
  exact h
theorem t_242_0 {d : Nat} {P : Int → qM → Prop} {x1 : Int} {M : qM} {c s : Nat} (hl : q_lay M) (h : (q_At q_m242 (q_WP q_Pr d) P 4 [(0, .inr (.inr 66)), (1, .inl x1), (2, .inl (0 : Int)), (3, .inl (0 : Int))] [] M c s)) : q_At q_m242 (q_WP q_Pr d) P 0 [(0, .inr (.inr 66)), (1, .inl x1)] [] M c s := by
  refine s_242_0 ?_
  exact h
theorem t_242_4 {d : Nat} {P : Int → qM → Prop} {x1 x2 x3 : Int} {M : qM} {c s : Nat} (hl : q_lay M) (h : (((q_nm M 66 73) ≤ x3 → (P x2 M)) ∧ (x3 < (q_nm M 66 73) → ((0 ≤ x3 ∧ x3 < 20) ∧ q_WP q_Pr d 201 [.inr (.inr 66), .inl (q_nm M 120 x3)] M (fun v1 M2 => q_lay M2 ∧ (q_At q_m242 (q_WP q_Pr d) P 28 [(0, .inr (.inr 66)), (1, .inl x1), (2, .inl x2), (3, .inl x3), (4, .inl (0 : Int)), (5, .inl (0 : Int))] [] M2 c s)))))) : q_At q_m242 (q_WP q_Pr d) P 4 [(0, .inr (.inr 66)), (1, .inl x1), (2, .inl x2), (3, .inl x3)] [] M c s := by
  refine s_242_4 ?_
  rw [lk66 hl, lr66_74 hl, ll120 hl, lk120 hl]
  refine ⟨rfl, ?_⟩
  refine ⟨?_, ?_⟩
  · replace h := h.1
    intro g
    replace h := h g
    exact h
  · replace h := h.2
    intro g
    replace h := h g
    refine ⟨rfl, ?_⟩
    refine ⟨⟨rfl, h.1⟩, ?_⟩
    replace h := h.2
    refine ⟨rfl, ?_⟩
    refine q_WP_mono _ _ _ _ _ _ (fun v1 M2 hh => ?_) h
    obtain ⟨hlM2, h⟩ := hh
    exact h
theorem t_242_28 {d : Nat} {P : Int → qM → Prop} {x1 x2 x3 x4 x5 : Int} {M : qM} {c s : Nat} (hl : q_lay M) (h : (((q_nm M 66 55) ≤ x5 → ((x4 = 0 → (q_At q_m242 (q_WP q_Pr (d + 1)) P 4 [(0, .inr (.inr 66)), (1, .inl x1), (2, .inl x2), (3, .inl (w32 (x3 + 1)))] [] M c s)) ∧ (¬ x4 = 0 → (q_At q_m242 (q_WP q_Pr (d + 1)) P 4 [(0, .inr (.inr 66)), (1, .inl x1), (2, .inl (w32 (x2 + 1))), (3, .inl (w32 (x3 + 1)))] [] M c s)))) ∧ (x5 < (q_nm M 66 55) → ((¬ x4 = 0 → ((x4 = 0 → (q_At q_m242 (q_WP q_Pr (d + 1)) P 4 [(0, .inr (.inr 66)), (1, .inl x1), (2, .inl x2), (3, .inl (w32 (x3 + 1)))] [] M c s)) ∧ (¬ x4 = 0 → (q_At q_m242 (q_WP q_Pr (d + 1)) P 4 [(0, .inr (.inr 66)), (1, .inl x1), (2, .inl (w32 (x2 + 1))), (3, .inl (w32 (x3 + 1)))] [] M c s)))) ∧ (x4 = 0 → ((0 ≤ x5 ∧ x5 < 640) ∧ ((¬ (q_nm M 108 x5) = (4 : Int) → (q_At q_m242 (q_WP q_Pr (d + 1)) P 123 [(0, .inr (.inr 66)), (1, .inl x1), (2, .inl x2), (3, .inl x3), (5, .inl x5)] [] M c s)) ∧ ((q_nm M 108 x5) = (4 : Int) → ((0 ≤ x3 ∧ x3 < 20) ∧ ((0 ≤ x5 ∧ x5 < 640) ∧ (((0 ≤ (q_nm M 120 x3) ∧ (q_nm M 120 x3) < 12) ∧ 0 ≤ (q_nm M 109 x5) ∧ (q_nm M 109 x5) < 6) ∧ ((0 ≤ (q_nm M 99 (6 * (q_nm M 120 x3) + (q_nm M 109 x5))) ∧ (q_nm M 99 (6 * (q_nm M 120 x3) + (q_nm M 109 x5))) < 30) ∧ ((0 ≤ x3 ∧ x3 < 20) ∧ ((0 ≤ x5 ∧ x5 < 640) ∧ (((0 ≤ (q_nm M 120 x3) ∧ (q_nm M 120 x3) < 12) ∧ 0 ≤ (q_nm M 110 x5) ∧ (q_nm M 110 x5) < 6) ∧ ((0 ≤ (q_nm M 99 (6 * (q_nm M 120 x3) + (q_nm M 110 x5))) ∧ (q_nm M 99 (6 * (q_nm M 120 x3) + (q_nm M 110 x5))) < 30) ∧ ((¬ (q_nm M 95 (q_nm M 99 (6 * (q_nm M 120 x3) + (q_nm M 109 x5)))) = (q_nm M 95 (q_nm M 99 (6 * (q_nm M 120 x3) + (q_nm M 110 x5)))) → ((¬ (0 : Int) = x1 → (q_At q_m242 (q_WP q_Pr (d + 1)) P 123 [(0, .inr (.inr 66)), (1, .inl x1), (2, .inl x2), (3, .inl x3), (5, .inl x5)] [] M c s)) ∧ ((0 : Int) = x1 → q_WP q_Pr (d + 1) 236 [.inr (.inr 66), .inl x5, .inl x3] M (fun v5 M6 => q_lay M6 ∧ ((v5 = 0 → (q_At q_m242 (q_WP q_Pr (d + 1)) P 123 [(0, .inr (.inr 66)), (1, .inl x1), (2, .inl x2), (3, .inl x3), (5, .inl x5)] [] M6 c s)) ∧ (¬ v5 = 0 → (q_At q_m242 (q_WP q_Pr (d + 1)) P 124 [(0, .inr (.inr 66)), (1, .inl x1), (2, .inl x2), (3, .inl x3), (5, .inl x5)] [.inl (1 : Int)] M6 c s))))))) ∧ ((q_nm M 95 (q_nm M 99 (6 * (q_nm M 120 x3) + (q_nm M 109 x5)))) = (q_nm M 95 (q_nm M 99 (6 * (q_nm M 120 x3) + (q_nm M 110 x5)))) → ((¬ (1 : Int) = x1 → (q_At q_m242 (q_WP q_Pr (d + 1)) P 123 [(0, .inr (.inr 66)), (1, .inl x1), (2, .inl x2), (3, .inl x3), (5, .inl x5)] [] M c s)) ∧ ((1 : Int) = x1 → q_WP q_Pr (d + 1) 236 [.inr (.inr 66), .inl x5, .inl x3] M (fun v7 M8 => q_lay M8 ∧ ((v7 = 0 → (q_At q_m242 (q_WP q_Pr (d + 1)) P 123 [(0, .inr (.inr 66)), (1, .inl x1), (2, .inl x2), (3, .inl x3), (5, .inl x5)] [] M8 c s)) ∧ (¬ v7 = 0 → (q_At q_m242 (q_WP q_Pr (d + 1)) P 124 [(0, .inr (.inr 66)), (1, .inl x1), (2, .inl x2), (3, .inl x3), (5, .inl x5)] [.inl (1 : Int)] M8 c s)))))))))))))))))))))))) : q_At q_m242 (q_WP q_Pr (d + 1)) P 28 [(0, .inr (.inr 66)), (1, .inl x1), (2, .inl x2), (3, .inl x3), (4, .inl x4), (5, .inl x5)] [] M c s := by
  refine s_242_28 ?_
  rw [lk66 hl, lr66_57 hl, ll108 hl, lk108 hl, lr66_74 hl, ll120 hl, lk120 hl, lr66_58 hl, ll109 hl, lk109 hl, lr66_37 hl]
  refine ⟨rfl, ?_⟩
  refine ⟨?_, ?_⟩
  · replace h := h.1
    intro g
    replace h := h g
    refine ⟨?_, ?_⟩
    · replace h := h.1
      intro g
      replace h := h g
      exact h
    · replace h := h.2
      intro g
      replace h := h g
      exact h
  · replace h := h.2
    intro g
    replace h := h g
    refine ⟨?_, ?_⟩
    · replace h := h.1
      intro g
      replace h := h g
      refine ⟨?_, ?_⟩
      · replace h := h.1
        intro g
        replace h := h g
        exact h
      · replace h := h.2
        intro g
        replace h := h g
        exact h
    · replace h := h.2
      intro g
      replace h := h g
      refine ⟨rfl, ?_⟩
      refine ⟨⟨rfl, h.1⟩, ?_⟩
      replace h := h.2
      refine ⟨?_, ?_⟩
      · replace h := h.1
        intro g
        replace h := h g
        exact h
      · replace h := h.2
        intro g
        replace h := h g
        refine ⟨rfl, ?_⟩
        refine ⟨rfl, ?_⟩
        refine ⟨⟨rfl, h.1⟩, ?_⟩
        replace h := h.2
        refine ⟨rfl, ?_⟩
        refine ⟨⟨rfl, h.1⟩, ?_⟩
        replace h := h.2
        refine ⟨rfl, ?_⟩
        refine p_188 hl h.1 ?_
        replace h := h.2
        rw [ll95 hl, lk95 hl, lk66 hl, lr66_74 hl, ll120 hl, lk120 hl, lr66_59 hl, ll110 hl, lk110 hl, lr66_37 hl]
        refine ⟨⟨rfl, h.1⟩, ?_⟩
        replace h := h.2
        refine ⟨rfl, ?_⟩
        refine ⟨rfl, ?_⟩
        refine ⟨⟨rfl, h.1⟩, ?_⟩
        replace h := h.2
        refine ⟨rfl, ?_⟩
        refine ⟨⟨rfl, h.1⟩, ?_⟩
        replace h := h.2
        refine ⟨rfl, ?_⟩
        refine p_188 hl h.1 ?_
        replace h := h.2
        rw [ll95 hl, lk95 hl, lk66 hl]
        refine ⟨⟨rfl, h.1⟩, ?_⟩
        replace h := h.2
        refine ⟨?_, ?_⟩
        · replace h := h.1
          intro g
          replace h := h g
          refine ⟨?_, ?_⟩
          · replace h := h.1
            intro g
            replace h := h g
            exact h
          · replace h := h.2
            intro g
            replace h := h g
            refine ⟨rfl, ?_⟩
            refine q_WP_mono _ _ _ _ _ _ (fun v5 M6 hh => ?_) h
            obtain ⟨hlM6, h⟩ := hh
            refine ⟨?_, ?_⟩
            · replace h := h.1
              intro g
              replace h := h g
              exact h
            · replace h := h.2
              intro g
              replace h := h g
              exact h
        · replace h := h.2
          intro g
          replace h := h g
          refine ⟨?_, ?_⟩
          · replace h := h.1
            intro g
            replace h := h g
            exact h
          · replace h := h.2
            intro g
            replace h := h g
            refine ⟨rfl, ?_⟩
            refine q_WP_mono _ _ _ _ _ _ (fun v7 M8 hh => ?_) h
            obtain ⟨hlM8, h⟩ := hh
            refine ⟨?_, ?_⟩
            · replace h := h.1
              intro g
              replace h := h g
              exact h
            · replace h := h.2
              intro g
              replace h := h g
              exact h
theorem t_242_123 {d : Nat} {P : Int → qM → Prop} {x1 x2 x3 x5 : Int} {M : qM} {c s : Nat} (hl : q_lay M) (h : (q_At q_m242 (q_WP q_Pr d) P 124 [(0, .inr (.inr 66)), (1, .inl x1), (2, .inl x2), (3, .inl x3), (5, .inl x5)] [.inl (0 : Int)] M c s)) : q_At q_m242 (q_WP q_Pr d) P 123 [(0, .inr (.inr 66)), (1, .inl x1), (2, .inl x2), (3, .inl x3), (5, .inl x5)] [] M c s := by
  refine s_242_123 ?_
  exact h
theorem t_242_124 {d : Nat} {P : Int → qM → Prop} {x1 x2 x3 x5 y0 : Int} {M : qM} {c s : Nat} (hl : q_lay M) (h : (q_At q_m242 (q_WP q_Pr d) P 28 [(0, .inr (.inr 66)), (1, .inl x1), (2, .inl x2), (3, .inl x3), (4, .inl y0), (5, .inl (w32 (x5 + 1)))] [] M c s)) : q_At q_m242 (q_WP q_Pr d) P 124 [(0, .inr (.inr 66)), (1, .inl x1), (2, .inl x2), (3, .inl x3), (5, .inl x5)] [.inl y0] M c s := by
  refine s_242_124 ?_
  exact h
theorem t_243_0 {d : Nat} {P : Int → qM → Prop} {x1 x2 x3 : Int} {M : qM} {c s : Nat} (hl : q_lay M) (h : q_WP q_Pr d 215 [.inr (.inr 66), .inl x1, .inl x2] M (fun v1 M2 => q_lay M2 ∧ (q_At q_m243 (q_WP q_Pr d) P 12 [(0, .inr (.inr 66)), (1, .inl x1), (3, .inl x3), (4, .inr (.inl v1)), (6, .inl (0 : Int))] [] M2 c s))) : q_At q_m243 (q_WP q_Pr d) P 0 [(0, .inr (.inr 66)), (1, .inl x1), (2, .inl x2), (3, .inl x3)] [] M c s := by
  refine s_243_0 ?_
  rw [lk66 hl]
  refine ⟨rfl, ?_⟩
  refine q_WP_mono _ _ _ _ _ _ (fun v1 M2 hh => ?_) h
  obtain ⟨hlM2, h⟩ := hh
  exact h
theorem t_243_12 {d : Nat} {P : Int → qM → Prop} {x1 x3 x4 x6 : Int} {M : qM} {c s : Nat} (hl : q_lay M) (h : (((q_nm M 66 55) ≤ x6 → q_WP q_Pr d 215 [.inr (.inr 66), .inl x1, .inl x3] M (fun v1 M2 => q_lay M2 ∧ (((q_lc x4 (0 : Int)) = 0 → (P (0 : Int) M2)) ∧ (¬ (q_lc x4 (0 : Int)) = 0 → ((¬ (q_lc v1 (0 : Int)) = 0 → (q_At q_m243 (q_WP q_Pr d) P 80 [(0, .inr (.inr 66)), (4, .inr (.inl x4)), (6, .inr (.inl v1)), (8, .inr (.inl (0 : Int))), (10, .inl (0 : Int))] [] M2 c s)) ∧ ((q_lc v1 (0 : Int)) = 0 → (P (0 : Int) M2))))))) ∧ (x6 < (q_nm M 66 55) → ((0 ≤ x6 ∧ x6 < 640) ∧ ((0 ≤ x6 ∧ x6 < 640) ∧ (∀ M3 : qM, M3 = q_wn M 123 x6 (q_nm M 118 x6) → q_lay M3 → ((0 ≤ x6 ∧ x6 < 640) ∧ (∀ M4 : qM, M4 = q_wn M3 124 x6 (0 : Int) → q_lay M4 → (q_At q_m243 (q_WP q_Pr d) P 12 [(0, .inr (.inr 66)), (1, .inl x1), (3, .inl x3), (4, .inr (.inl x4)), (6, .inl (w32 (x6 + 1)))] [] M4 c s))))))))) : q_At q_m243 (q_WP q_Pr d) P 12 [(0, .inr (.inr 66)), (1, .inl x1), (3, .inl x3), (4, .inr (.inl x4)), (6, .inl x6)] [] M c s := by
  refine s_243_12 ?_
  rw [lk66 hl, lr66_70 hl, ll118 hl, lk118 hl, lr66_78 hl, ll123 hl, lk123 hl]
  refine ⟨rfl, ?_⟩
  refine ⟨?_, ?_⟩
  · replace h := h.1
    intro g
    replace h := h g
    refine ⟨rfl, ?_⟩
    refine q_WP_mono _ _ _ _ _ _ (fun v1 M2 hh => ?_) h
    obtain ⟨hlM2, h⟩ := hh
    refine ⟨?_, ?_⟩
    · replace h := h.1
      intro g
      replace h := h g
      exact h
    · replace h := h.2
      intro g
      replace h := h g
      refine ⟨?_, ?_⟩
      · replace h := h.1
        intro g
        replace h := h g
        exact h
      · replace h := h.2
        intro g
        replace h := h g
        exact h
  · replace h := h.2
    intro g
    replace h := h g
    refine ⟨rfl, ?_⟩
    refine ⟨rfl, ?_⟩
    refine ⟨⟨rfl, h.1⟩, ?_⟩
    replace h := h.2
    refine ⟨⟨⟨by decide, rfl⟩, h.1⟩, ?_⟩
    replace h := h.2
    intro M3
    have hlM3 : q_lay M3 := q_lay_wn hl
    replace h := h M3 rfl hlM3
    rw [lk66 hlM3, lr66_79 hlM3, ll124 hlM3, lk124 hlM3, q_bs16_0]
    refine ⟨rfl, ?_⟩
    refine ⟨⟨Or.inr rfl, h.1⟩, ?_⟩
    replace h := h.2
    intro M4
    have hlM4 : q_lay M4 := q_lay_wn hlM3
    replace h := h M4 rfl hlM4
    exact h
theorem t_243_80 {d : Nat} {P : Int → qM → Prop} {x4 x6 x8 x10 : Int} {M : qM} {c s : Nat} (hl : q_lay M) (h : (((q_nm M 66 55) ≤ x10 → (((w64 (x4 * x6)) ≠ 0) ∧ (P (w32 (w64 (Int.tdiv (w64 (x8 * (1000000 : Int))) (w64 (x4 * x6))))) M))) ∧ (x10 < (q_nm M 66 55) → ((0 ≤ x10 ∧ x10 < 640) ∧ (((q_nm M 124 x10) = 0 → (q_At q_m243 (q_WP q_Pr d) P 112 [(0, .inr (.inr 66)), (4, .inr (.inl x4)), (6, .inr (.inl x6)), (8, .inr (.inl x8)), (10, .inl x10), (11, .inr (.inl (0 : Int))), (13, .inr (.inl (0 : Int))), (15, .inl x10)] [] M c s)) ∧ (¬ (q_nm M 124 x10) = 0 → (q_At q_m243 (q_WP q_Pr d) P 80 [(0, .inr (.inr 66)), (4, .inr (.inl x4)), (6, .inr (.inl x6)), (8, .inr (.inl x8)), (10, .inl (w32 (x10 + 1)))] [] M c s))))))) : q_At q_m243 (q_WP q_Pr d) P 80 [(0, .inr (.inr 66)), (4, .inr (.inl x4)), (6, .inr (.inl x6)), (8, .inr (.inl x8)), (10, .inl x10)] [] M c s := by
  refine s_243_80 ?_
  rw [lk66 hl, lr66_79 hl, ll124 hl, lk124 hl]
  refine ⟨rfl, ?_⟩
  refine ⟨?_, ?_⟩
  · replace h := h.1
    intro g
    replace h := h g
    refine ⟨h.1, ?_⟩
    replace h := h.2
    exact h
  · replace h := h.2
    intro g
    replace h := h g
    refine ⟨rfl, ?_⟩
    refine ⟨⟨Or.inr rfl, h.1⟩, ?_⟩
    replace h := h.2
    refine ⟨?_, ?_⟩
    · replace h := h.1
      intro g
      replace h := h g
      exact h
    · replace h := h.2
      intro g
      replace h := h g
      exact h
theorem t_243_112 {d : Nat} {P : Int → qM → Prop} {x4 x6 x8 x10 x11 x13 x15 : Int} {M : qM} {c s : Nat} (hl : q_lay M) (h : (((q_nm M 66 55) ≤ x15 → ((0 ≤ (q_lc (w64 ((w64 (x11 * x6)) - (w64 (x13 * x4)))) (0 : Int)) → (q_At q_m243 (q_WP q_Pr d) P 80 [(0, .inr (.inr 66)), (4, .inr (.inl x4)), (6, .inr (.inl x6)), (8, .inr (.inl (w64 (x8 + (w64 ((w64 (x11 * x6)) - (w64 (x13 * x4)))))))), (10, .inl (w32 (x10 + 1)))] [] M c s)) ∧ ((q_lc (w64 ((w64 (x11 * x6)) - (w64 (x13 * x4)))) (0 : Int)) < 0 → (q_At q_m243 (q_WP q_Pr d) P 80 [(0, .inr (.inr 66)), (4, .inr (.inl x4)), (6, .inr (.inl x6)), (8, .inr (.inl (w64 (x8 + (w64 (-(w64 ((w64 (x11 * x6)) - (w64 (x13 * x4)))))))))), (10, .inl (w32 (x10 + 1)))] [] M c s)))) ∧ (x15 < (q_nm M 66 55) → ((0 ≤ x15 ∧ x15 < 640) ∧ ((¬ (q_nm M 124 x15) = 0 → (q_At q_m243 (q_WP q_Pr d) P 112 [(0, .inr (.inr 66)), (4, .inr (.inl x4)), (6, .inr (.inl x6)), (8, .inr (.inl x8)), (10, .inl x10), (11, .inr (.inl x11)), (13, .inr (.inl x13)), (15, .inl (w32 (x15 + 1)))] [] M c s)) ∧ ((q_nm M 124 x15) = 0 → ((0 ≤ x10 ∧ x10 < 640) ∧ q_WP q_Pr d 223 [.inr (.inr 66), .inl x15, .inr (.inr 111), .inl (w32 ((104 : Int) * x10)), .inl (q_nm M 112 x10)] M (fun v1 M2 => q_lay M2 ∧ ((¬ v1 = 0 → ((0 ≤ x15 ∧ x15 < 640) ∧ (∀ M3 : qM, M3 = q_wn M2 124 x15 (1 : Int) → q_lay M3 → ((0 ≤ x15 ∧ x15 < 640) ∧ ((0 ≤ x15 ∧ x15 < 640) ∧ (q_At q_m243 (q_WP q_Pr d) P 112 [(0, .inr (.inr 66)), (4, .inr (.inl x4)), (6, .inr (.inl x6)), (8, .inr (.inl x8)), (10, .inl x10), (11, .inr (.inl (w64 (x11 + (q_nm M3 123 x15))))), (13, .inr (.inl (w64 (x13 + (q_nm M3 118 x15))))), (15, .inl (w32 (x15 + 1)))] [] M3 c s)))))) ∧ (v1 = 0 → (q_At q_m243 (q_WP q_Pr d) P 112 [(0, .inr (.inr 66)), (4, .inr (.inl x4)), (6, .inr (.inl x6)), (8, .inr (.inl x8)), (10, .inl x10), (11, .inr (.inl x11)), (13, .inr (.inl x13)), (15, .inl (w32 (x15 + 1)))] [] M2 c s))))))))))) : q_At q_m243 (q_WP q_Pr d) P 112 [(0, .inr (.inr 66)), (4, .inr (.inl x4)), (6, .inr (.inl x6)), (8, .inr (.inl x8)), (10, .inl x10), (11, .inr (.inl x11)), (13, .inr (.inl x13)), (15, .inl x15)] [] M c s := by
  refine s_243_112 ?_
  rw [lk66 hl, lr66_79 hl, ll124 hl, lk124 hl, lr66_61 hl, ll112 hl, lk112 hl, lr66_60 hl]
  refine ⟨rfl, ?_⟩
  refine ⟨?_, ?_⟩
  · replace h := h.1
    intro g
    replace h := h g
    refine ⟨?_, ?_⟩
    · replace h := h.1
      intro g
      replace h := h g
      exact h
    · replace h := h.2
      intro g
      replace h := h g
      exact h
  · replace h := h.2
    intro g
    replace h := h g
    refine ⟨rfl, ?_⟩
    refine ⟨⟨Or.inr rfl, h.1⟩, ?_⟩
    replace h := h.2
    refine ⟨?_, ?_⟩
    · replace h := h.1
      intro g
      replace h := h g
      exact h
    · replace h := h.2
      intro g
      replace h := h g
      refine ⟨rfl, ?_⟩
      refine ⟨rfl, ?_⟩
      refine ⟨⟨rfl, h.1⟩, ?_⟩
      replace h := h.2
      refine ⟨rfl, ?_⟩
      refine q_WP_mono _ _ _ _ _ _ (fun v1 M2 hh => ?_) h
      obtain ⟨hlM2, h⟩ := hh
      rw [lk66 hlM2, lr66_79 hlM2, ll124 hlM2, lk124 hlM2, q_bs16_1]
      refine ⟨?_, ?_⟩
      · replace h := h.1
        intro g
        replace h := h g
        refine ⟨rfl, ?_⟩
        refine ⟨⟨Or.inr rfl, h.1⟩, ?_⟩
        replace h := h.2
        intro M3
        have hlM3 : q_lay M3 := q_lay_wn hlM2
        replace h := h M3 rfl hlM3
        rw [lk66 hlM3, lr66_78 hlM3, ll123 hlM3, lk123 hlM3, lr66_70 hlM3, ll118 hlM3, lk118 hlM3]
        refine ⟨rfl, ?_⟩
        refine ⟨⟨rfl, h.1⟩, ?_⟩
        replace h := h.2
        refine ⟨rfl, ?_⟩
        refine ⟨⟨rfl, h.1⟩, ?_⟩
        replace h := h.2
        exact h
      · replace h := h.2
        intro g
        replace h := h g
        exact h
theorem t_244_0 {d : Nat} {P : Int → qM → Prop} {x1 x2 x3 : Int} {M : qM} {c s : Nat} (hl : q_lay M) (h : ((0 ≤ q_nm M 66 40 ∧ q_nm M 66 40 ≤ 12) ∧ ((0 ≤ x1 ∧ x1 < q_nm M 66 40 → (((0 ≤ x2 ∧ x2 ≤ 3) ∧ ¬ q_nm M 100 x2 = 0 → (((0 ≤ x3 ∧ x3 ≤ 3) ∧ ¬ q_nm M 100 x3 = 0 → q_WP q_Pr (d + 2) 243 [.inr (.inr 66), .inl x1, .inl x2, .inl x3] M (fun v7 M8 => q_lay M8 ∧ (P v7 M8))) ∧ (¬ ((0 ≤ x3 ∧ x3 ≤ 3) ∧ ¬ q_nm M 100 x3 = 0) → (P (-1 : Int) M)))) ∧ (¬ ((0 ≤ x2 ∧ x2 ≤ 3) ∧ ¬ q_nm M 100 x2 = 0) → (P (-1 : Int) M)))) ∧ (¬ (0 ≤ x1 ∧ x1 < q_nm M 66 40) → (P (-1 : Int) M))))) : q_At q_m244 (q_WP q_Pr (d + 2)) P 0 [(0, .inr (.inr 66)), (1, .inl x1), (2, .inl x2), (3, .inl x3)] [] M c s := by
  refine s_244_0 ?_
  rw [lk66 hl]
  refine ⟨rfl, ?_⟩
  refine p_164 hl h.1 (fun g => ?_) (fun g => ?_)
  · replace h := h.2.1 g
    rw [lk66 hl]
    refine ⟨fun g => absurd g (by decide), fun _ => ?_⟩
    refine ⟨rfl, ?_⟩
    refine p_216 hl (fun g => ?_) (fun g => ?_)
    · replace h := h.1 g
      rw [lk66 hl]
      refine ⟨fun g => absurd g (by decide), fun _ => ?_⟩
      refine ⟨rfl, ?_⟩
      refine p_216 hl (fun g => ?_) (fun g => ?_)
      · replace h := h.1 g
        rw [lk66 hl]
        refine ⟨fun g => absurd g (by decide), fun _ => ?_⟩
        refine ⟨rfl, ?_⟩
        refine q_WP_mono _ _ _ _ _ _ (fun v7 M8 hh => ?_) h
        obtain ⟨hlM8, h⟩ := hh
        exact h
      · replace h := h.2 g
        rw [lk66 hl]
        refine ⟨fun _ => ?_, fun g => absurd g (by decide)⟩
        exact h
    · replace h := h.2 g
      rw [lk66 hl]
      refine ⟨fun _ => ?_, fun g => absurd g (by decide)⟩
      exact h
  · replace h := h.2.2 g
    rw [lk66 hl]
    refine ⟨fun _ => ?_, fun g => absurd g (by decide)⟩
    exact h
theorem t_245_0 {d : Nat} {P : Int → qM → Prop} {M : qM} {c s : Nat} (hl : q_lay M) (h : (((q_nm M 66 40) = 0 → (P (-1 : Int) M)) ∧ (¬ (q_nm M 66 40) = 0 → q_WP q_Pr d 166 [.inr (.inr 66), .inl (2 : Int)] M (fun v1 M2 => q_lay M2 ∧ (((2 : Int) ≤ v1 → (q_At q_m245 (q_WP q_Pr d) P 24 [(0, .inr (.inr 66)), (1, .inl (-1 : Int)), (2, .inl (0 : Int)), (3, .inl (0 : Int))] [] M2 c s)) ∧ (v1 < (2 : Int) → (P (-1 : Int) M2))))))) : q_At q_m245 (q_WP q_Pr d) P 0 [(0, .inr (.inr 66))] [] M c s := by
  refine s_245_0 ?_
  rw [lk66 hl]
  refine ⟨rfl, ?_⟩
  refine ⟨?_, ?_⟩
  · replace h := h.1
    intro g
    replace h := h g
    exact h
  · replace h := h.2
    intro g
    replace h := h g
    refine ⟨rfl, ?_⟩
    refine q_WP_mono _ _ _ _ _ _ (fun v1 M2 hh => ?_) h
    obtain ⟨hlM2, h⟩ := hh
    refine ⟨?_, ?_⟩
    · replace h := h.1
      intro g
      replace h := h g
      exact h
    · replace h := h.2
      intro g
      replace h := h g
      exact h
theorem t_245_24 {d : Nat} {P : Int → qM → Prop} {x1 x2 x3 : Int} {M : qM} {c s : Nat} (hl : q_lay M) (h : (((q_nm M 66 40) ≤ x3 → (P x1 M)) ∧ (x3 < (q_nm M 66 40) → (q_At q_m245 (q_WP q_Pr d) P 38 [(0, .inr (.inr 66)), (1, .inl x1), (2, .inl x2), (3, .inl x3), (4, .inl (0 : Int)), (5, .inl (0 : Int))] [] M c s)))) : q_At q_m245 (q_WP q_Pr d) P 24 [(0, .inr (.inr 66)), (1, .inl x1), (2, .inl x2), (3, .inl x3)] [] M c s := by
  refine s_245_24 ?_
  rw [lk66 hl]
  refine ⟨rfl, ?_⟩
  refine ⟨?_, ?_⟩
  · replace h := h.1
    intro g
    replace h := h g
    exact h
  · replace h := h.2
    intro g
    replace h := h g
    exact h
theorem t_245_38 {d : Nat} {P : Int → qM → Prop} {x1 x2 x3 x4 x5 : Int} {M : qM} {c s : Nat} (hl : q_lay M) (h : (((4 : Int) ≤ x5 → ((x1 = (-1 : Int) → (q_At q_m245 (q_WP q_Pr d) P 24 [(0, .inr (.inr 66)), (1, .inl x3), (2, .inl x4), (3, .inl (w32 (x3 + 1)))] [] M c s)) ∧ (¬ x1 = (-1 : Int) → ((x2 < x4 → (q_At q_m245 (q_WP q_Pr d) P 24 [(0, .inr (.inr 66)), (1, .inl x3), (2, .inl x4), (3, .inl (w32 (x3 + 1)))] [] M c s)) ∧ (x4 ≤ x2 → (q_At q_m245 (q_WP q_Pr d) P 24 [(0, .inr (.inr 66)), (1, .inl x1), (2, .inl x2), (3, .inl (w32 (x3 + 1)))] [] M c s)))))) ∧ (x5 < (4 : Int) → (q_At q_m245 (q_WP q_Pr d) P 50 [(0, .inr (.inr 66)), (1, .inl x1), (2, .inl x2), (3, .inl x3), (4, .inl x4), (5, .inl x5), (6, .inl (w32 (x5 + (1 : Int))))] [] M c s)))) : q_At q_m245 (q_WP q_Pr d) P 38 [(0, .inr (.inr 66)), (1, .inl x1), (2, .inl x2), (3, .inl x3), (4, .inl x4), (5, .inl x5)] [] M c s := by
  refine s_245_38 ?_
  refine ⟨?_, ?_⟩
  · replace h := h.1
    intro g
    replace h := h g
    refine ⟨?_, ?_⟩
    · replace h := h.1
      intro g
      replace h := h g
      exact h
    · replace h := h.2
      intro g
      replace h := h g
      refine ⟨?_, ?_⟩
      · replace h := h.1
        intro g
        replace h := h g
        exact h
      · replace h := h.2
        intro g
        replace h := h g
        exact h
  · replace h := h.2
    intro g
    replace h := h g
    exact h
theorem t_245_50 {d : Nat} {P : Int → qM → Prop} {x1 x2 x3 x4 x5 x6 : Int} {M : qM} {c s : Nat} (hl : q_lay M) (h : (((4 : Int) ≤ x6 → (q_At q_m245 (q_WP q_Pr d) P 38 [(0, .inr (.inr 66)), (1, .inl x1), (2, .inl x2), (3, .inl x3), (4, .inl x4), (5, .inl (w32 (x5 + 1)))] [] M c s)) ∧ (x6 < (4 : Int) → ((0 ≤ x5 ∧ x5 < 6) ∧ (((q_nm M 100 x5) = 0 → (q_At q_m245 (q_WP q_Pr d) P 50 [(0, .inr (.inr 66)), (1, .inl x1), (2, .inl x2), (3, .inl x3), (4, .inl x4), (5, .inl x5), (6, .inl (w32 (x6 + 1)))] [] M c s)) ∧ (¬ (q_nm M 100 x5) = 0 → ((0 ≤ x6 ∧ x6 < 6) ∧ (((q_nm M 100 x6) = 0 → (q_At q_m245 (q_WP q_Pr d) P 50 [(0, .inr (.inr 66)), (1, .inl x1), (2, .inl x2), (3, .inl x3), (4, .inl x4), (5, .inl x5), (6, .inl (w32 (x6 + 1)))] [] M c s)) ∧ (¬ (q_nm M 100 x6) = 0 → q_WP q_Pr d 243 [.inr (.inr 66), .inl x3, .inl x5, .inl x6] M (fun v1 M2 => q_lay M2 ∧ (q_At q_m245 (q_WP q_Pr d) P 50 [(0, .inr (.inr 66)), (1, .inl x1), (2, .inl x2), (3, .inl x3), (4, .inl (w32 (x4 + v1))), (5, .inl x5), (6, .inl (w32 (x6 + 1)))] [] M2 c s))))))))))) : q_At q_m245 (q_WP q_Pr d) P 50 [(0, .inr (.inr 66)), (1, .inl x1), (2, .inl x2), (3, .inl x3), (4, .inl x4), (5, .inl x5), (6, .inl x6)] [] M c s := by
  refine s_245_50 ?_
  rw [lk66 hl, lr66_43 hl, ll100 hl, lk100 hl]
  refine ⟨?_, ?_⟩
  · replace h := h.1
    intro g
    replace h := h g
    exact h
  · replace h := h.2
    intro g
    replace h := h g
    refine ⟨rfl, ?_⟩
    refine ⟨⟨Or.inr rfl, h.1⟩, ?_⟩
    replace h := h.2
    refine ⟨?_, ?_⟩
    · replace h := h.1
      intro g
      replace h := h g
      exact h
    · replace h := h.2
      intro g
      replace h := h g
      refine ⟨rfl, ?_⟩
      refine ⟨⟨Or.inr rfl, h.1⟩, ?_⟩
      replace h := h.2
      refine ⟨?_, ?_⟩
      · replace h := h.1
        intro g
        replace h := h g
        exact h
      · replace h := h.2
        intro g
        replace h := h g
        refine ⟨rfl, ?_⟩
        refine q_WP_mono _ _ _ _ _ _ (fun v1 M2 hh => ?_) h
        obtain ⟨hlM2, h⟩ := hh
        exact h
theorem t_246_0 {d : Nat} {P : Int → qM → Prop} {x1 x2 : Int} {M : qM} {c s : Nat} (hl : q_lay M) (h : ((0 ≤ x1 ∧ x1 < 640) ∧ ((¬ (q_nm M 108 x1) = 0 → (q_At q_m246 (q_WP q_Pr d) P 13 [(0, .inr (.inr 66)), (1, .inl x1), (2, .inl x2), (3, .inl (0 : Int))] [] M c s)) ∧ ((q_nm M 108 x1) = 0 → (P (0 : Int) M))))) : q_At q_m246 (q_WP q_Pr d) P 0 [(0, .inr (.inr 66)), (1, .inl x1), (2, .inl x2)] [] M c s := by
  refine s_246_0 ?_
  rw [lk66 hl, lr66_57 hl, ll108 hl, lk108 hl]
  refine ⟨rfl, ?_⟩
  refine ⟨⟨rfl, h.1⟩, ?_⟩
  replace h := h.2
  refine ⟨?_, ?_⟩
  · replace h := h.1
    intro g
    replace h := h g
    exact h
  · replace h := h.2
    intro g
    replace h := h g
    refine ⟨⟨by decide, by decide⟩, ?_⟩
    exact h
theorem t_246_13 {d : Nat} {P : Int → qM → Prop} {x1 x2 x3 : Int} {M : qM} {c s : Nat} (hl : q_lay M) (h : (((2 : Int) ≤ x3 → (P (0 : Int) M)) ∧ (x3 < (2 : Int) → ((¬ x3 = (1 : Int) → ((¬ x3 = 0 → ((0 ≤ x1 ∧ x1 < 640) ∧ (q_At q_m246 (q_WP q_Pr d) P 71 [(0, .inr (.inr 66)), (1, .inl x1), (2, .inl x2), (3, .inl x3)] [.inl (q_nm M 110 x1), .inl (q_nm M 66 56), .inl x1, .inr (.inr 66)] M c s))) ∧ (x3 = 0 → ((0 ≤ x1 ∧ x1 < 640) ∧ (q_At q_m246 (q_WP q_Pr d) P 71 [(0, .inr (.inr 66)), (1, .inl x1), (2, .inl x2), (3, .inl x3)] [.inl (q_nm M 109 x1), .inl (q_nm M 66 56), .inl x1, .inr (.inr 66)] M c s))))) ∧ (x3 = (1 : Int) → ((0 ≤ x1 ∧ x1 < 640) ∧ (((q_nm M 108 x1) = (3 : Int) → ((¬ x3 = 0 → ((0 ≤ x1 ∧ x1 < 640) ∧ (q_At q_m246 (q_WP q_Pr d) P 71 [(0, .inr (.inr 66)), (1, .inl x1), (2, .inl x2), (3, .inl x3)] [.inl (q_nm M 110 x1), .inl (q_nm M 66 56), .inl x1, .inr (.inr 66)] M c s))) ∧ (x3 = 0 → ((0 ≤ x1 ∧ x1 < 640) ∧ (q_At q_m246 (q_WP q_Pr d) P 71 [(0, .inr (.inr 66)), (1, .inl x1), (2, .inl x2), (3, .inl x3)] [.inl (q_nm M 109 x1), .inl (q_nm M 66 56), .inl x1, .inr (.inr 66)] M c s))))) ∧ (¬ (q_nm M 108 x1) = (3 : Int) → ((0 ≤ x1 ∧ x1 < 640) ∧ (((q_nm M 108 x1) = (4 : Int) → ((¬ x3 = 0 → ((0 ≤ x1 ∧ x1 < 640) ∧ (q_At q_m246 (q_WP q_Pr d) P 71 [(0, .inr (.inr 66)), (1, .inl x1), (2, .inl x2), (3, .inl x3)] [.inl (q_nm M 110 x1), .inl (q_nm M 66 56), .inl x1, .inr (.inr 66)] M c s))) ∧ (x3 = 0 → ((0 ≤ x1 ∧ x1 < 640) ∧ (q_At q_m246 (q_WP q_Pr d) P 71 [(0, .inr (.inr 66)), (1, .inl x1), (2, .inl x2), (3, .inl x3)] [.inl (q_nm M 109 x1), .inl (q_nm M 66 56), .inl x1, .inr (.inr 66)] M c s))))) ∧ (¬ (q_nm M 108 x1) = (4 : Int) → (q_At q_m246 (q_WP q_Pr d) P 13 [(0, .inr (.inr 66)), (1, .inl x1), (2, .inl x2), (3, .inl (w32 (x3 + 1)))] [] M c s)))))))))))) : q_At q_m246 (q_WP q_Pr d) P 13 [(0, .inr (.inr 66)), (1, .inl x1), (2, .inl x2), (3, .inl x3)] [] M c s := by
  refine s_246_13 ?_
  rw [lk66 hl, lr66_59 hl, ll110 hl, lk110 hl, lr66_58 hl, ll109 hl, lk109 hl, lr66_57 hl, ll108 hl, lk108 hl]
  refine ⟨?_, ?_⟩
  · replace h := h.1
    intro g
    replace h := h g
    refine ⟨⟨by decide, by decide⟩, ?_⟩
    exact h
  · replace h := h.2
    intro g
    replace h := h g
    refine ⟨?_, ?_⟩
    · replace h := h.1
      intro g
      replace h := h g
      refine ⟨rfl, ?_⟩
      refine ⟨?_, ?_⟩
      · replace h := h.1
        intro g
        replace h := h g
        refine ⟨rfl, ?_⟩
        refine ⟨⟨rfl, h.1⟩, ?_⟩
        replace h := h.2
        exact h
      · replace h := h.2
        intro g
        replace h := h g
        refine ⟨rfl, ?_⟩
        refine ⟨⟨rfl, h.1⟩, ?_⟩
        replace h := h.2
        exact h
    · replace h := h.2
      intro g
      replace h := h g
      refine ⟨rfl, ?_⟩
      refine ⟨⟨rfl, h.1⟩, ?_⟩
      replace h := h.2
      refine ⟨?_, ?_⟩
      · replace h := h.1
        intro g
        replace h := h g
        refine ⟨rfl, ?_⟩
        refine ⟨?_, ?_⟩
        · replace h := h.1
          intro g
          replace h := h g
          refine ⟨rfl, ?_⟩
          refine ⟨⟨rfl, h.1⟩, ?_⟩
          replace h := h.2
          exact h
        · replace h := h.2
          intro g
          replace h := h g
          refine ⟨rfl, ?_⟩
          refine ⟨⟨rfl, h.1⟩, ?_⟩
          replace h := h.2
          exact h
      · replace h := h.2
        intro g
        replace h := h g
        refine ⟨rfl, ?_⟩
        refine ⟨⟨rfl, h.1⟩, ?_⟩
        replace h := h.2
        refine ⟨?_, ?_⟩
        · replace h := h.1
          intro g
          replace h := h g
          refine ⟨rfl, ?_⟩
          refine ⟨?_, ?_⟩
          · replace h := h.1
            intro g
            replace h := h g
            refine ⟨rfl, ?_⟩
            refine ⟨⟨rfl, h.1⟩, ?_⟩
            replace h := h.2
            exact h
          · replace h := h.2
            intro g
            replace h := h g
            refine ⟨rfl, ?_⟩
            refine ⟨⟨rfl, h.1⟩, ?_⟩
            replace h := h.2
            exact h
        · replace h := h.2
          intro g
          replace h := h g
          exact h
theorem t_246_71 {d : Nat} {P : Int → qM → Prop} {x1 x2 x3 y0 y1 y2 y3 : Int} {M : qM} {c s : Nat} (hl : q_lay M) (h : ((q_kd M y3 = 11) ∧ q_WP q_Pr d 196 [.inr (.inr y3), .inl y2, .inl y1, .inl y0] M (fun v1 M2 => q_lay M2 ∧ q_WP q_Pr d 194 [.inr (.inr 66)] M2 (fun v3 M4 => q_lay M4 ∧ ((v3 = (-1 : Int) → (q_At q_m246 (q_WP q_Pr d) P 13 [(0, .inr (.inr 66)), (1, .inl x1), (2, .inl x2), (3, .inl (w32 (x3 + 1)))] [] M4 c s)) ∧ (¬ v3 = (-1 : Int) → ((0 ≤ v3 ∧ v3 < 30) ∧ ((¬ (q_nm M4 96 v3) = x2 → (q_At q_m246 (q_WP q_Pr d) P 13 [(0, .inr (.inr 66)), (1, .inl x1), (2, .inl x2), (3, .inl (w32 (x3 + 1)))] [] M4 c s)) ∧ ((q_nm M4 96 v3) = x2 → (P (1 : Int) M4)))))))))) : q_At q_m246 (q_WP q_Pr d) P 71 [(0, .inr (.inr 66)), (1, .inl x1), (2, .inl x2), (3, .inl x3)] [.inl y0, .inl y1, .inl y2, .inr (.inr y3)] M c s := by
  refine s_246_71 ?_
  refine ⟨h.1, ?_⟩
  replace h := h.2
  refine q_WP_mono _ _ _ _ _ _ (fun v1 M2 hh => ?_) h
  obtain ⟨hlM2, h⟩ := hh
  rw [lk66 hlM2]
  refine ⟨rfl, ?_⟩
  refine q_WP_mono _ _ _ _ _ _ (fun v3 M4 hh => ?_) h
  obtain ⟨hlM4, h⟩ := hh
  rw [lk66 hlM4, lr66_38 hlM4, ll96 hlM4, lk96 hlM4]
  refine ⟨?_, ?_⟩
  · replace h := h.1
    intro g
    replace h := h g
    exact h
  · replace h := h.2
    intro g
    replace h := h g
    refine ⟨rfl, ?_⟩
    refine ⟨⟨rfl, h.1⟩, ?_⟩
    replace h := h.2
    refine ⟨?_, ?_⟩
    · replace h := h.1
      intro g
      replace h := h g
      exact h
    · replace h := h.2
      intro g
      replace h := h g
      refine ⟨⟨by decide, by decide⟩, ?_⟩
      exact h
theorem t_247_0 {d : Nat} {P : Int → qM → Prop} {x1 x2 x3 x4 : Int} {M : qM} {c s : Nat} (hl : q_lay M) (h : ((0 ≤ q_nm M 66 40 ∧ q_nm M 66 40 ≤ 12) ∧ ((0 ≤ x1 ∧ x1 < q_nm M 66 40 → (((0 ≤ x2 ∧ x2 ≤ 3) ∧ ¬ q_nm M 100 x2 = 0 → (((0 : Int) ≤ x3 ∧ x3 ≤ (9 : Int) → q_WP q_Pr (d + 2) 215 [.inr (.inr 66), .inl x1, .inl x2] M (fun v7 M8 => q_lay M8 ∧ ((¬ v7 = 0 → (q_At q_m247 (q_WP q_Pr (d + 2)) P 51 [(0, .inr (.inr 66)), (3, .inl x3), (4, .inl x4), (5, .inl v7), (6, .inl (0 : Int)), (7, .inl (0 : Int))] [] M8 c s)) ∧ (v7 = 0 → (P (-1 : Int) M8))))) ∧ (¬ ((0 : Int) ≤ x3 ∧ x3 ≤ (9 : Int)) → (P (-1 : Int) M)))) ∧ (¬ ((0 ≤ x2 ∧ x2 ≤ 3) ∧ ¬ q_nm M 100 x2 = 0) → (P (-1 : Int) M)))) ∧ (¬ (0 ≤ x1 ∧ x1 < q_nm M 66 40) → (P (-1 : Int) M))))) : q_At q_m247 (q_WP q_Pr (d + 2)) P 0 [(0, .inr (.inr 66)), (1, .inl x1), (2, .inl x2), (3, .inl x3), (4, .inl x4)] [] M c s := by
  refine s_247_0 ?_
  rw [lk66 hl]
  refine ⟨rfl, ?_⟩
  refine p_164 hl h.1 (fun g => ?_) (fun g => ?_)
  · replace h := h.2.1 g
    rw [lk66 hl]
    refine ⟨fun g => absurd g (by decide), fun _ => ?_⟩
    refine ⟨rfl, ?_⟩
    refine p_216 hl (fun g => ?_) (fun g => ?_)
    · replace h := h.1 g
      refine ⟨fun g => absurd g (by decide), fun _ => ?_⟩
      refine p_146 (fun g => ?_) (fun g => ?_)
      · replace h := h.1 g
        rw [lk66 hl]
        refine ⟨fun _ => ?_, fun g => absurd g (by decide)⟩
        refine ⟨rfl, ?_⟩
        refine q_WP_mono _ _ _ _ _ _ (fun v7 M8 hh => ?_) h
        obtain ⟨hlM8, h⟩ := hh
        refine ⟨?_, ?_⟩
        · replace h := h.1
          intro g
          replace h := h g
          exact h
        · replace h := h.2
          intro g
          replace h := h g
          exact h
      · replace h := h.2 g
        rw [lk66 hl]
        refine ⟨fun g => absurd g (by decide), fun _ => ?_⟩
        exact h
    · replace h := h.2 g
      refine ⟨fun _ => ?_, fun g => absurd g (by decide)⟩
      exact h
  · replace h := h.2.2 g
    rw [lk66 hl]
    refine ⟨fun _ => ?_, fun g => absurd g (by decide)⟩
    exact h
theorem t_247_51 {d : Nat} {P : Int → qM → Prop} {x3 x4 x5 x6 x7 : Int} {M : qM} {c s : Nat} (hl : q_lay M) (h : (((q_nm M 66 55) ≤ x7 → q_WP q_Pr d 227 [.inr (.inl x6), .inr (.inl x5), .inl x4] M (fun v1 M2 => q_lay M2 ∧ (P v1 M2))) ∧ (x7 < (q_nm M 66 55) → ((0 ≤ x7 ∧ x7 < 640) ∧ (((q_nm M 118 x7) ≤ 0 → (q_At q_m247 (q_WP q_Pr d) P 51 [(0, .inr (.inr 66)), (3, .inl x3), (4, .inl x4), (5, .inl x5), (6, .inl x6), (7, .inl (w32 (x7 + 1)))] [] M c s)) ∧ (0 < (q_nm M 118 x7) → q_WP q_Pr d 246 [.inr (.inr 66), .inl x7, .inl x3] M (fun v3 M4 => q_lay M4 ∧ ((v3 = 0 → (q_At q_m247 (q_WP q_Pr d) P 51 [(0, .inr (.inr 66)), (3, .inl x3), (4, .inl x4), (5, .inl x5), (6, .inl x6), (7, .inl (w32 (x7 + 1)))] [] M4 c s)) ∧ (¬ v3 = 0 → ((0 ≤ x7 ∧ x7 < 640) ∧ (q_At q_m247 (q_WP q_Pr d) P 51 [(0, .inr (.inr 66)), (3, .inl x3), (4, .inl x4), (5, .inl x5), (6, .inl (w32 (x6 + (q_nm M4 118 x7)))), (7, .inl (w32 (x7 + 1)))] [] M4 c s))))))))))) : q_At q_m247 (q_WP q_Pr d) P 51 [(0, .inr (.inr 66)), (3, .inl x3), (4, .inl x4), (5, .inl x5), (6, .inl x6), (7, .inl x7)] [] M c s := by
  refine s_247_51 ?_
  rw [lk66 hl, lr66_70 hl, ll118 hl, lk118 hl]
  refine ⟨rfl, ?_⟩
  refine ⟨?_, ?_⟩
  · replace h := h.1
    intro g
    replace h := h g
    refine q_WP_mono _ _ _ _ _ _ (fun v1 M2 hh => ?_) h
    obtain ⟨hlM2, h⟩ := hh
    exact h
  · replace h := h.2
    intro g
    replace h := h g
    refine ⟨rfl, ?_⟩
    refine ⟨⟨rfl, h.1⟩, ?_⟩
    replace h := h.2
    refine ⟨?_, ?_⟩
    · replace h := h.1
      intro g
      replace h := h g
      exact h
    · replace h := h.2
      intro g
      replace h := h g
      refine ⟨rfl, ?_⟩
      refine q_WP_mono _ _ _ _ _ _ (fun v3 M4 hh => ?_) h
      obtain ⟨hlM4, h⟩ := hh
      rw [lk66 hlM4, lr66_70 hlM4, ll118 hlM4, lk118 hlM4]
      refine ⟨?_, ?_⟩
      · replace h := h.1
        intro g
        replace h := h g
        exact h
      · replace h := h.2
        intro g
        replace h := h g
        refine ⟨rfl, ?_⟩
        refine ⟨⟨rfl, h.1⟩, ?_⟩
        replace h := h.2
        exact h
theorem t_248_0 {d : Nat} {P : Int → qM → Prop} {x1 x2 x3 x4 : Int} {M : qM} {c s : Nat} (hl : q_lay M) (h : ((0 ≤ q_nm M 66 40 ∧ q_nm M 66 40 ≤ 12) ∧ ((0 ≤ x1 ∧ x1 < q_nm M 66 40 → (((0 ≤ x2 ∧ x2 ≤ 3) ∧ ¬ q_nm M 100 x2 = 0 → ((0 ≤ x3 ∧ x3 ≤ 8 → q_WP q_Pr (d + 2) 215 [.inr (.inr 66), .inl x1, .inl x2] M (fun v7 M8 => q_lay M8 ∧ (q_At q_m248 (q_WP q_Pr (d + 2)) P 42 [(0, .inr (.inr 66)), (3, .inl x3), (4, .inl x4), (5, .inr (.inl (0 : Int))), (7, .inr (.inl (0 : Int))), (9, .inl (0 : Int))] [] M8 c s))) ∧ (¬ (0 ≤ x3 ∧ x3 ≤ 8) → (P (-1 : Int) M)))) ∧ (¬ ((0 ≤ x2 ∧ x2 ≤ 3) ∧ ¬ q_nm M 100 x2 = 0) → (P (-1 : Int) M)))) ∧ (¬ (0 ≤ x1 ∧ x1 < q_nm M 66 40) → (P (-1 : Int) M))))) : q_At q_m248 (q_WP q_Pr (d + 2)) P 0 [(0, .inr (.inr 66)), (1, .inl x1), (2, .inl x2), (3, .inl x3), (4, .inl x4)] [] M c s := by
  refine s_248_0 ?_
  rw [lk66 hl]
  refine ⟨rfl, ?_⟩
  refine p_164 hl h.1 (fun g => ?_) (fun g => ?_)
  · replace h := h.2.1 g
    rw [lk66 hl]
    refine ⟨fun g => absurd g (by decide), fun _ => ?_⟩
    refine ⟨rfl, ?_⟩
    refine p_216 hl (fun g => ?_) (fun g => ?_)
    · replace h := h.1 g
      rw [lk66 hl]
      refine ⟨fun g => absurd g (by decide), fun _ => ?_⟩
      refine ⟨rfl, ?_⟩
      refine p_165 (fun g => ?_) (fun g => ?_)
      · replace h := h.1 g
        rw [lk66 hl]
        refine ⟨fun _ => ?_, fun g => absurd g (by decide)⟩
        refine ⟨rfl, ?_⟩
        refine q_WP_mono _ _ _ _ _ _ (fun v7 M8 hh => ?_) h
        obtain ⟨hlM8, h⟩ := hh
        exact h
      · replace h := h.2 g
        rw [lk66 hl]
        refine ⟨fun g => absurd g (by decide), fun _ => ?_⟩
        exact h
    · replace h := h.2 g
      rw [lk66 hl]
      refine ⟨fun _ => ?_, fun g => absurd g (by decide)⟩
      exact h
  · replace h := h.2.2 g
    rw [lk66 hl]
    refine ⟨fun _ => ?_, fun g => absurd g (by decide)⟩
    exact h
theorem t_248_42 {d : Nat} {P : Int → qM → Prop} {x3 x4 x5 x7 x9 : Int} {M : qM} {c s : Nat} (hl : q_lay M) (h : (((q_nm M 66 55) ≤ x9 → ((¬ (q_lc x5 (0 : Int)) = 0 → q_WP q_Pr d 227 [.inr (.inl x7), .inr (.inl x5), .inl x4] M (fun v1 M2 => q_lay M2 ∧ (P v1 M2))) ∧ ((q_lc x5 (0 : Int)) = 0 → (P (-1 : Int) M)))) ∧ (x9 < (q_nm M 66 55) → ((0 ≤ x9 ∧ x9 < 640) ∧ ((¬ (q_nm M 118 x9) = 0 → ((0 ≤ x9 ∧ x9 < 640) ∧ q_WP q_Pr d 214 [.inr (.inr 66), .inl x9] M (fun v3 M4 => q_lay M4 ∧ ((0 ≤ x9 ∧ x9 < 640) ∧ ((¬ (q_nm M4 108 x9) = x3 → (q_At q_m248 (q_WP q_Pr d) P 42 [(0, .inr (.inr 66)), (3, .inl x3), (4, .inl x4), (5, .inr (.inl (w64 (x5 + (w64 ((q_nm M 118 x9) * v3)))))), (7, .inr (.inl x7)), (9, .inl (w32 (x9 + 1)))] [] M4 c s)) ∧ ((q_nm M4 108 x9) = x3 → (q_At q_m248 (q_WP q_Pr d) P 42 [(0, .inr (.inr 66)), (3, .inl x3), (4, .inl x4), (5, .inr (.inl (w64 (x5 + (w64 ((q_nm M 118 x9) * v3)))))), (7, .inr (.inl (w64 (x7 + (w64 ((q_nm M 118 x9) * v3)))))), (9, .inl (w32 (x9 + 1)))] [] M4 c s))))))) ∧ ((q_nm M 118 x9) = 0 → (q_At q_m248 (q_WP q_Pr d) P 42 [(0, .inr (.inr 66)), (3, .inl x3), (4, .inl x4), (5, .inr (.inl x5)), (7, .inr (.inl x7)), (9, .inl (w32 (x9 + 1)))] [] M c s))))))) : q_At q_m248 (q_WP q_Pr d) P 42 [(0, .inr (.inr 66)), (3, .inl x3), (4, .inl x4), (5, .inr (.inl x5)), (7, .inr (.inl x7)), (9, .inl x9)] [] M c s := by
  refine s_248_42 ?_
  rw [lk66 hl, lr66_70 hl, ll118 hl, lk118 hl]
  refine ⟨rfl, ?_⟩
  refine ⟨?_, ?_⟩
  · replace h := h.1
    intro g
    replace h := h g
    refine ⟨?_, ?_⟩
    · replace h := h.1
      intro g
      replace h := h g
      refine q_WP_mono _ _ _ _ _ _ (fun v1 M2 hh => ?_) h
      obtain ⟨hlM2, h⟩ := hh
      exact h
    · replace h := h.2
      intro g
      replace h := h g
      exact h
  · replace h := h.2
    intro g
    replace h := h g
    refine ⟨rfl, ?_⟩
    refine ⟨⟨rfl, h.1⟩, ?_⟩
    replace h := h.2
    refine ⟨?_, ?_⟩
    · replace h := h.1
      intro g
      replace h := h g
      refine ⟨rfl, ?_⟩
      refine ⟨⟨rfl, h.1⟩, ?_⟩
      replace h := h.2
      refine ⟨rfl, ?_⟩
      refine q_WP_mono _ _ _ _ _ _ (fun v3 M4 hh => ?_) h
      obtain ⟨hlM4, h⟩ := hh
      rw [lk66 hlM4, lr66_57 hlM4, ll108 hlM4, lk108 hlM4]
      refine ⟨rfl, ?_⟩
      refine ⟨⟨rfl, h.1⟩, ?_⟩
      replace h := h.2
      refine ⟨?_, ?_⟩
      · replace h := h.1
        intro g
        replace h := h g
        exact h
      · replace h := h.2
        intro g
        replace h := h g
        exact h
    · replace h := h.2
      intro g
      replace h := h g
      exact h
theorem t_249_0 {d : Nat} {P : Int → qM → Prop} {x1 : Int} {M : qM} {c s : Nat} (hl : q_lay M) (h : ((0 ≤ (q_nm M 66 81) ∧ (q_nm M 66 81) < 2100) ∧ (∀ M1 : qM, M1 = q_wn M 125 (q_nm M 66 81) x1 → q_lay M1 → (∀ M2 : qM, M2 = q_wn M1 66 81 (w32 ((q_nm M1 66 81) + (1 : Int))) → q_lay M2 → (P (0 : Int) M2))))) : q_At q_m249 (q_WP q_Pr d) P 0 [(0, .inr (.inr 66)), (1, .inl x1)] [] M c s := by
  refine s_249_0 ?_
  rw [lk66 hl, lr66_80 hl, ll125 hl, lk125 hl]
  refine ⟨rfl, ?_⟩
  refine ⟨rfl, ?_⟩
  refine ⟨⟨⟨by decide, rfl⟩, h.1⟩, ?_⟩
  replace h := h.2
  intro M1
  have hlM1 : q_lay M1 := q_lay_wn hl
  replace h := h M1 rfl hlM1
  rw [lk66 hlM1]
  refine ⟨rfl, ?_⟩
  refine ⟨rfl, ?_⟩
  intro M2
  have hlM2 : q_lay M2 := q_lay_wn hlM1
  replace h := h M2 rfl hlM2
  exact h
theorem t_250_0 {d : Nat} {P : Int → qM → Prop} {x0 x1 : Int} {M : qM} {c s : Nat} (hl : q_lay M) (h : (q_At q_m250 (q_WP q_Pr d) P 5 [(0, .inr (.inr x0)), (1, .inl x1), (2, .inl (7 : Int)), (3, .inl (0 : Int))] [] M c s)) : q_At q_m250 (q_WP q_Pr d) P 0 [(0, .inr (.inr x0)), (1, .inl x1)] [] M c s := by
  refine s_250_0 ?_
  exact h
theorem t_250_5 {d : Nat} {P : Int → qM → Prop} {x0 x1 x2 x3 : Int} {M : qM} {c s : Nat} (hl : q_lay M) (h : ((x1 ≤ x3 → (P x2 M)) ∧ (x3 < x1 → ((q_kd M x0 = 14 ∧ 0 ≤ x3 ∧ x3 < q_ln M x0) ∧ (q_At q_m250 (q_WP q_Pr d) P 5 [(0, .inr (.inr x0)), (1, .inl x1), (2, .inl (Int.tmod (w32 ((w32 ((3 : Int) * x2)) + (q_nm M x0 x3))) (251 : Int))), (3, .inl (w32 (x3 + 1)))] [] M c s))))) : q_At q_m250 (q_WP q_Pr d) P 5 [(0, .inr (.inr x0)), (1, .inl x1), (2, .inl x2), (3, .inl x3)] [] M c s := by
  refine s_250_5 ?_
  refine ⟨?_, ?_⟩
  · replace h := h.1
    intro g
    replace h := h g
    exact h
  · replace h := h.2
    intro g
    replace h := h g
    refine ⟨h.1, ?_⟩
    replace h := h.2
    refine ⟨by decide, ?_⟩
    exact h
theorem t_251_0 {d : Nat} {P : Int → qM → Prop} {M : qM} {c s : Nat} (hl : q_lay M) (h : (∀ M1 : qM, M1 = q_wn M 66 81 (0 : Int) → q_lay M1 → q_WP q_Pr d 249 [.inr (.inr 66), .inl (q_nm M1 66 73)] M1 (fun v2 M3 => q_lay M3 ∧ (q_At q_m251 (q_WP q_Pr d) P 15 [(0, .inr (.inr 66)), (1, .inl (0 : Int))] [] M3 c s)))) : q_At q_m251 (q_WP q_Pr d) P 0 [(0, .inr (.inr 66))] [] M c s := by
  refine s_251_0 ?_
  rw [lk66 hl]
  refine ⟨rfl, ?_⟩
  intro M1
  have hlM1 : q_lay M1 := q_lay_wn hl
  replace h := h M1 rfl hlM1
  rw [lk66 hlM1]
  refine ⟨rfl, ?_⟩
  refine ⟨rfl, ?_⟩
  refine q_WP_mono _ _ _ _ _ _ (fun v2 M3 hh => ?_) h
  obtain ⟨hlM3, h⟩ := hh
  exact h
theorem t_251_15 {d : Nat} {P : Int → qM → Prop} {x1 : Int} {M : qM} {c s : Nat} (hl : q_lay M) (h : (((q_nm M 66 73) ≤ x1 → q_WP q_Pr d 250 [.inr (.inr 125), .inl (q_nm M 66 81)] M (fun v1 M2 => q_lay M2 ∧ q_WP q_Pr d 249 [.inr (.inr 66), .inl v1] M2 (fun v3 M4 => q_lay M4 ∧ (P (q_nm M4 66 81) M4)))) ∧ (x1 < (q_nm M 66 73) → ((0 ≤ x1 ∧ x1 < 20) ∧ q_WP q_Pr d 249 [.inr (.inr 66), .inl (q_nm M 120 x1)] M (fun v5 M6 => q_lay M6 ∧ ((0 ≤ x1 ∧ x1 < 20) ∧ q_WP q_Pr d 249 [.inr (.inr 66), .inl (q_nm M6 121 x1)] M6 (fun v7 M8 => q_lay M8 ∧ (q_At q_m251 (q_WP q_Pr d) P 45 [(0, .inr (.inr 66)), (1, .inl x1), (2, .inl (0 : Int))] [] M8 c s)))))))) : q_At q_m251 (q_WP q_Pr d) P 15 [(0, .inr (.inr 66)), (1, .inl x1)] [] M c s := by
  refine s_251_15 ?_
  rw [lk66 hl, lr66_80 hl, lr66_74 hl, ll120 hl, lk120 hl]
  refine ⟨rfl, ?_⟩
  refine ⟨?_, ?_⟩
  · replace h := h.1
    intro g
    replace h := h g
    refine ⟨rfl, ?_⟩
    refine ⟨rfl, ?_⟩
    refine q_WP_mono _ _ _ _ _ _ (fun v1 M2 hh => ?_) h
    obtain ⟨hlM2, h⟩ := hh
    rw [lk66 hlM2]
    refine ⟨rfl, ?_⟩
    refine q_WP_mono _ _ _ _ _ _ (fun v3 M4 hh => ?_) h
    obtain ⟨hlM4, h⟩ := hh
    rw [lk66 hlM4]
    refine ⟨rfl, ?_⟩
    exact h
  · replace h := h.2
    intro g
    replace h := h g
    refine ⟨rfl, ?_⟩
    refine ⟨⟨rfl, h.1⟩, ?_⟩
    replace h := h.2
    refine ⟨rfl, ?_⟩
    refine q_WP_mono _ _ _ _ _ _ (fun v5 M6 hh => ?_) h
    obtain ⟨hlM6, h⟩ := hh
    rw [lk66 hlM6, lr66_75 hlM6, ll121 hlM6, lk121 hlM6]
    refine ⟨rfl, ?_⟩
    refine ⟨⟨rfl, h.1⟩, ?_⟩
    replace h := h.2
    refine ⟨rfl, ?_⟩
    refine q_WP_mono _ _ _ _ _ _ (fun v7 M8 hh => ?_) h
    obtain ⟨hlM8, h⟩ := hh
    exact h
theorem t_251_45 {d : Nat} {P : Int → qM → Prop} {x1 x2 : Int} {M : qM} {c s : Nat} (hl : q_lay M) (h : ((0 ≤ x1 ∧ x1 < 20) ∧ (((q_nm M 121 x1) ≤ x2 → (q_At q_m251 (q_WP q_Pr d) P 15 [(0, .inr (.inr 66)), (1, .inl (w32 (x1 + 1)))] [] M c s)) ∧ (x2 < (q_nm M 121 x1) → ((0 ≤ (w32 ((w32 ((104 : Int) * x1)) + x2)) ∧ (w32 ((w32 ((104 : Int) * x1)) + x2)) < 2080) ∧ q_WP q_Pr d 249 [.inr (.inr 66), .inl (q_nm M 122 (w32 ((w32 ((104 : Int) * x1)) + x2)))] M (fun v1 M2 => q_lay M2 ∧ (q_At q_m251 (q_WP q_Pr d) P 45 [(0, .inr (.inr 66)), (1, .inl x1), (2, .inl (w32 (x2 + 1)))] [] M2 c s))))))) : q_At q_m251 (q_WP q_Pr d) P 45 [(0, .inr (.inr 66)), (1, .inl x1), (2, .inl x2)] [] M c s := by
  refine s_251_45 ?_
  rw [lk66 hl, lr66_75 hl, ll121 hl, lk121 hl, lr66_76 hl, ll122 hl, lk122 hl]
  refine ⟨rfl, ?_⟩
  refine ⟨⟨rfl, h.1⟩, ?_⟩
  replace h := h.2
  refine ⟨?_, ?_⟩
  · replace h := h.1
    intro g
    replace h := h g
    exact h
  · replace h := h.2
    intro g
    replace h := h g
    refine ⟨rfl, ?_⟩
    refine ⟨⟨rfl, h.1⟩, ?_⟩
    replace h := h.2
    refine ⟨rfl, ?_⟩
    refine q_WP_mono _ _ _ _ _ _ (fun v1 M2 hh => ?_) h
    obtain ⟨hlM2, h⟩ := hh
    exact h
theorem t_252_0 {d : Nat} {P : Int → qM → Prop} {x1 : Int} {M : qM} {c s : Nat} (hl : q_lay M) (h : ((x1 < 0 → (P (-1 : Int) M)) ∧ (0 ≤ x1 → (((q_nm M 66 81) ≤ x1 → (P (-1 : Int) M)) ∧ (x1 < (q_nm M 66 81) → ((0 ≤ x1 ∧ x1 < 2100) ∧ (P (q_nm M 125 x1) M))))))) : q_At q_m252 (q_WP q_Pr d) P 0 [(0, .inr (.inr 66)), (1, .inl x1)] [] M c s := by
  refine s_252_0 ?_
  rw [lk66 hl, lr66_80 hl, ll125 hl, lk125 hl]
  refine ⟨?_, ?_⟩
  · replace h := h.1
    intro g
    replace h := h g
    exact h
  · replace h := h.2
    intro g
    replace h := h g
    refine ⟨rfl, ?_⟩
    refine ⟨?_, ?_⟩
    · replace h := h.1
      intro g
      replace h := h g
      exact h
    · replace h := h.2
      intro g
      replace h := h g
      refine ⟨rfl, ?_⟩
      refine ⟨⟨rfl, h.1⟩, ?_⟩
      replace h := h.2
      exact h
theorem t_253_0 {d : Nat} {P : Int → qM → Prop} {x1 x2 : Int} {M : qM} {c s : Nat} (hl : q_lay M) (h : ((x2 < (w32 (x1 + (2 : Int))) → (P (-1 : Int) M)) ∧ ((w32 (x1 + (2 : Int))) ≤ x2 → ((0 ≤ x1 ∧ x1 < 2100) ∧ ((0 ≤ q_nm M 66 40 ∧ q_nm M 66 40 ≤ 12) ∧ ((0 ≤ (q_nm M 67 x1) ∧ (q_nm M 67 x1) < q_nm M 66 40 → ((0 ≤ (w32 (x1 + (1 : Int))) ∧ (w32 (x1 + (1 : Int))) < 2100) ∧ (((1 : Int) ≤ (q_nm M 67 (w32 (x1 + (1 : Int)))) ∧ (q_nm M 67 (w32 (x1 + (1 : Int)))) ≤ (100 : Int) → ((0 ≤ (w32 (x1 + (1 : Int))) ∧ (w32 (x1 + (1 : Int))) < 2100) ∧ (((w32 ((w32 (x1 + (2 : Int))) + (q_nm M 67 (w32 (x1 + (1 : Int)))))) ≤ x2 → (q_At q_m253 (q_WP q_Pr (d + 2)) P 61 [(0, .inr (.inr 66)), (1, .inl x1), (3, .inl (w32 (x1 + (2 : Int))))] [] M c s)) ∧ (x2 < (w32 ((w32 (x1 + (2 : Int))) + (q_nm M 67 (w32 (x1 + (1 : Int)))))) → (P (-1 : Int) M))))) ∧ (¬ ((1 : Int) ≤ (q_nm M 67 (w32 (x1 + (1 : Int)))) ∧ (q_nm M 67 (w32 (x1 + (1 : Int)))) ≤ (100 : Int)) → (P (-1 : Int) M))))) ∧ (¬ (0 ≤ (q_nm M 67 x1) ∧ (q_nm M 67 x1) < q_nm M 66 40) → (P (-1 : Int) M)))))))) : q_At q_m253 (q_WP q_Pr (d + 2)) P 0 [(0, .inr (.inr 66)), (1, .inl x1), (2, .inl x2)] [] M c s := by
  refine s_253_0 ?_
  rw [lk66 hl, lr66_0 hl, ll67 hl, lk67 hl]
  refine ⟨?_, ?_⟩
  · replace h := h.1
    intro g
    replace h := h g
    exact h
  · replace h := h.2
    intro g
    replace h := h g
    refine ⟨rfl, ?_⟩
    refine ⟨⟨rfl, h.1⟩, ?_⟩
    replace h := h.2
    refine ⟨rfl, ?_⟩
    refine p_164 hl h.1 (fun g => ?_) (fun g => ?_)
    · replace h := h.2.1 g
      rw [lk66 hl, lr66_0 hl, ll67 hl, lk67 hl]
      refine ⟨fun g => absurd g (by decide), fun _ => ?_⟩
      refine ⟨rfl, ?_⟩
      refine ⟨⟨rfl, h.1⟩, ?_⟩
      replace h := h.2
      refine p_146 (fun g => ?_) (fun g => ?_)
      · replace h := h.1 g
        rw [lk66 hl, lr66_0 hl, ll67 hl, lk67 hl]
        refine ⟨fun g => absurd g (by decide), fun _ => ?_⟩
        refine ⟨rfl, ?_⟩
        refine ⟨⟨rfl, h.1⟩, ?_⟩
        replace h := h.2
        refine ⟨?_, ?_⟩
        · replace h := h.1
          intro g
          replace h := h g
          exact h
        · replace h := h.2
          intro g
          replace h := h g
          exact h
      · replace h := h.2 g
        rw [lk66 hl, lr66_0 hl, ll67 hl, lk67 hl]
        refine ⟨fun _ => ?_, fun g => absurd g (by decide)⟩
        exact h
    · replace h := h.2.2 g
      rw [lk66 hl, lr66_0 hl, ll67 hl, lk67 hl]
      refine ⟨fun _ => ?_, fun g => absurd g (by decide)⟩
      exact h
theorem t_253_61 {d : Nat} {P : Int → qM → Prop} {x1 x3 : Int} {M : qM} {c s : Nat} (hl : q_lay M) (h : ((0 ≤ (w32 (x1 + (1 : Int))) ∧ (w32 (x1 + (1 : Int))) < 2100) ∧ (((w32 ((w32 (x1 + (2 : Int))) + (q_nm M 67 (w32 (x1 + (1 : Int)))))) ≤ x3 → ((0 ≤ (w32 (x1 + (1 : Int))) ∧ (w32 (x1 + (1 : Int))) < 2100) ∧ (P (w32 ((w32 (x1 + (2 : Int))) + (q_nm M 67 (w32 (x1 + (1 : Int)))))) M))) ∧ (x3 < (w32 ((w32 (x1 + (2 : Int))) + (q_nm M 67 (w32 (x1 + (1 : Int)))))) → ((0 ≤ x3 ∧ x3 < 2100) ∧ (((q_nm M 67 x3) = (32 : Int) → (q_At q_m253 (q_WP q_Pr (d + 1)) P 61 [(0, .inr (.inr 66)), (1, .inl x1), (3, .inl (w32 (x3 + 1)))] [] M c s)) ∧ (¬ (q_nm M 67 x3) = (32 : Int) → ((0 ≤ x3 ∧ x3 < 2100) ∧ (((97 : Int) ≤ (q_nm M 67 x3) ∧ (q_nm M 67 x3) ≤ (122 : Int) → (q_At q_m253 (q_WP q_Pr (d + 1)) P 61 [(0, .inr (.inr 66)), (1, .inl x1), (3, .inl (w32 (x3 + 1)))] [] M c s)) ∧ (¬ ((97 : Int) ≤ (q_nm M 67 x3) ∧ (q_nm M 67 x3) ≤ (122 : Int)) → (P (-1 : Int) M))))))))))) : q_At q_m253 (q_WP q_Pr (d + 1)) P 61 [(0, .inr (.inr 66)), (1, .inl x1), (3, .inl x3)] [] M c s := by
  refine s_253_61 ?_
  rw [lk66 hl, lr66_0 hl, ll67 hl, lk67 hl]
  refine ⟨rfl, ?_⟩
  refine ⟨⟨rfl, h.1⟩, ?_⟩
  replace h := h.2
  refine ⟨?_, ?_⟩
  · replace h := h.1
    intro g
    replace h := h g
    refine ⟨rfl, ?_⟩
    refine ⟨⟨rfl, h.1⟩, ?_⟩
    replace h := h.2
    exact h
  · replace h := h.2
    intro g
    replace h := h g
    refine ⟨rfl, ?_⟩
    refine ⟨⟨rfl, h.1⟩, ?_⟩
    replace h := h.2
    refine ⟨?_, ?_⟩
    · replace h := h.1
      intro g
      replace h := h g
      exact h
    · replace h := h.2
      intro g
      replace h := h g
      refine ⟨rfl, ?_⟩
      refine ⟨⟨rfl, h.1⟩, ?_⟩
      replace h := h.2
      refine p_146 (fun g => ?_) (fun g => ?_)
      · replace h := h.1 g
        refine ⟨fun _ => ?_, fun g => absurd g (by decide)⟩
        exact h
      · replace h := h.2 g
        refine ⟨fun g => absurd g (by decide), fun _ => ?_⟩
        exact h
theorem t_254_0 {d : Nat} {P : Int → qM → Prop} {M : qM} {c s : Nat} (hl : q_lay M) (h : (∀ M1 : qM, M1 = q_wn M 66 1 (0 : Int) → q_lay M1 → (((q_nm M 66 1) < (2 : Int) → (P (0 : Int) M1)) ∧ ((2 : Int) ≤ (q_nm M 66 1) → (((q_nm M1 67 (0 : Int)) ≤ (20 : Int) → (q_At q_m254 (q_WP q_Pr d) P 32 [(0, .inr (.inr 66)), (1, .inl (q_nm M 66 1)), (2, .inl (1 : Int)), (3, .inl (0 : Int))] [] M1 c s)) ∧ ((20 : Int) < (q_nm M1 67 (0 : Int)) → (P (0 : Int) M1))))))) : q_At q_m254 (q_WP q_Pr d) P 0 [(0, .inr (.inr 66))] [] M c s := by
  refine s_254_0 ?_
  rw [lk66 hl]
  refine ⟨rfl, ?_⟩
  refine ⟨rfl, ?_⟩
  intro M1
  have hlM1 : q_lay M1 := q_lay_wn hl
  replace h := h M1 rfl hlM1
  rw [lk66 hlM1, lr66_0 hlM1, ll67 hlM1, lk67 hlM1]
  refine ⟨?_, ?_⟩
  · replace h := h.1
    intro g
    replace h := h g
    refine ⟨⟨by decide, by decide⟩, ?_⟩
    exact h
  · replace h := h.2
    intro g
    replace h := h g
    refine ⟨rfl, ?_⟩
    refine ⟨⟨rfl, ⟨by decide, by decide⟩⟩, ?_⟩
    refine ⟨?_, ?_⟩
    · replace h := h.1
      intro g
      replace h := h g
      exact h
    · replace h := h.2
      intro g
      replace h := h g
      refine ⟨⟨by decide, by decide⟩, ?_⟩
      exact h
theorem t_254_32 {d : Nat} {P : Int → qM → Prop} {x1 x2 x3 : Int} {M : qM} {c s : Nat} (hl : q_lay M) (h : (((q_nm M 67 (0 : Int)) ≤ x3 → ((¬ x2 = (w32 (x1 - (1 : Int))) → (P (0 : Int) M)) ∧ (x2 = (w32 (x1 - (1 : Int))) → ((0 ≤ x2 ∧ x2 < 2100) ∧ q_WP q_Pr d 250 [.inr (.inr 67), .inl x2] M (fun v1 M2 => q_lay M2 ∧ (((q_nm M 67 x2) = v1 → (∀ M3 : qM, M3 = q_wn M2 66 73 (q_nm M2 67 (0 : Int)) → q_lay M3 → (q_At q_m254 (q_WP q_Pr d) P 104 [(0, .inr (.inr 66)), (2, .inl (1 : Int)), (3, .inl (0 : Int))] [] M3 c s))) ∧ (¬ (q_nm M 67 x2) = v1 → (P (0 : Int) M2)))))))) ∧ (x3 < (q_nm M 67 (0 : Int)) → q_WP q_Pr d 253 [.inr (.inr 66), .inl x2, .inl (w32 (x1 - (1 : Int)))] M (fun v4 M5 => q_lay M5 ∧ ((¬ v4 = (-1 : Int) → (q_At q_m254 (q_WP q_Pr d) P 32 [(0, .inr (.inr 66)), (1, .inl x1), (2, .inl v4), (3, .inl (w32 (x3 + 1)))] [] M5 c s)) ∧ (v4 = (-1 : Int) → (P (0 : Int) M5))))))) : q_At q_m254 (q_WP q_Pr d) P 32 [(0, .inr (.inr 66)), (1, .inl x1), (2, .inl x2), (3, .inl x3)] [] M c s := by
  refine s_254_32 ?_
  rw [lk66 hl, lr66_0 hl, ll67 hl, lk67 hl]
  refine ⟨rfl, ?_⟩
  refine ⟨⟨rfl, ⟨by decide, by decide⟩⟩, ?_⟩
  refine ⟨?_, ?_⟩
  · replace h := h.1
    intro g
    replace h := h g
    refine ⟨?_, ?_⟩
    · replace h := h.1
      intro g
      replace h := h g
      refine ⟨⟨by decide, by decide⟩, ?_⟩
      exact h
    · replace h := h.2
      intro g
      replace h := h g
      refine ⟨rfl, ?_⟩
      refine ⟨⟨rfl, h.1⟩, ?_⟩
      replace h := h.2
      refine ⟨rfl, ?_⟩
      refine q_WP_mono _ _ _ _ _ _ (fun v1 M2 hh => ?_) h
      obtain ⟨hlM2, h⟩ := hh
      rw [lk66 hlM2, lr66_0 hlM2, ll67 hlM2, lk67 hlM2]
      refine ⟨?_, ?_⟩
      · replace h := h.1
        intro g
        replace h := h g
        refine ⟨rfl, ?_⟩
        refine ⟨⟨rfl, ⟨by decide, by decide⟩⟩, ?_⟩
        refine ⟨rfl, ?_⟩
        intro M3
        have hlM3 : q_lay M3 := q_lay_wn hlM2
        replace h := h M3 rfl hlM3
        exact h
      · replace h := h.2
        intro g
        replace h := h g
        refine ⟨⟨by decide, by decide⟩, ?_⟩
        exact h
  · replace h := h.2
    intro g
    replace h := h g
    refine ⟨rfl, ?_⟩
    refine q_WP_mono _ _ _ _ _ _ (fun v4 M5 hh => ?_) h
    obtain ⟨hlM5, h⟩ := hh
    refine ⟨?_, ?_⟩
    · replace h := h.1
      intro g
      replace h := h g
      exact h
    · replace h := h.2
      intro g
      replace h := h g
      refine ⟨⟨by decide, by decide⟩, ?_⟩
      exact h
theorem t_254_104 {d : Nat} {P : Int → qM → Prop} {x2 x3 : Int} {M : qM} {c s : Nat} (hl : q_lay M) (h : (((q_nm M 66 73) ≤ x3 → (P (1 : Int) M)) ∧ (x3 < (q_nm M 66 73) → ((0 ≤ x2 ∧ x2 < 2100) ∧ ((0 ≤ x3 ∧ x3 < 20) ∧ (∀ M1 : qM, M1 = q_wn M 120 x3 (q_nm M 67 x2) → q_lay M1 → ((0 ≤ (w32 (x2 + (1 : Int))) ∧ (w32 (x2 + (1 : Int))) < 2100) ∧ ((0 ≤ x3 ∧ x3 < 20) ∧ (∀ M2 : qM, M2 = q_wn M1 121 x3 (q_nm M1 67 (w32 (x2 + (1 : Int)))) → q_lay M2 → (q_At q_m254 (q_WP q_Pr d) P 141 [(0, .inr (.inr 66)), (2, .inl x2), (3, .inl x3), (4, .inl (0 : Int))] [] M2 c s)))))))))) : q_At q_m254 (q_WP q_Pr d) P 104 [(0, .inr (.inr 66)), (2, .inl x2), (3, .inl x3)] [] M c s := by
  refine s_254_104 ?_
  rw [lk66 hl, lr66_0 hl, ll67 hl, lk67 hl, lr66_74 hl, ll120 hl, lk120 hl]
  refine ⟨rfl, ?_⟩
  refine ⟨?_, ?_⟩
  · replace h := h.1
    intro g
    replace h := h g
    refine ⟨⟨by decide, by decide⟩, ?_⟩
    exact h
  · replace h := h.2
    intro g
    replace h := h g
    refine ⟨rfl, ?_⟩
    refine ⟨rfl, ?_⟩
    refine ⟨⟨rfl, h.1⟩, ?_⟩
    replace h := h.2
    refine ⟨⟨⟨by decide, rfl⟩, h.1⟩, ?_⟩
    replace h := h.2
    intro M1
    have hlM1 : q_lay M1 := q_lay_wn hl
    replace h := h M1 rfl hlM1
    rw [lk66 hlM1, lr66_0 hlM1, ll67 hlM1, lk67 hlM1, lr66_75 hlM1, ll121 hlM1, lk121 hlM1]
    refine ⟨rfl, ?_⟩
    refine ⟨rfl, ?_⟩
    refine ⟨⟨rfl, h.1⟩, ?_⟩
    replace h := h.2
    refine ⟨⟨⟨by decide, rfl⟩, h.1⟩, ?_⟩
    replace h := h.2
    intro M2
    have hlM2 : q_lay M2 := q_lay_wn hlM1
    replace h := h M2 rfl hlM2
    exact h
theorem t_254_141 {d : Nat} {P : Int → qM → Prop} {x2 x3 x4 : Int} {M : qM} {c s : Nat} (hl : q_lay M) (h : ((0 ≤ x3 ∧ x3 < 20) ∧ (((q_nm M 121 x3) ≤ x4 → ((0 ≤ x3 ∧ x3 < 20) ∧ (q_At q_m254 (q_WP q_Pr d) P 104 [(0, .inr (.inr 66)), (2, .inl (w32 (x2 + (w32 ((2 : Int) + (q_nm M 121 x3)))))), (3, .inl (w32 (x3 + 1)))] [] M c s))) ∧ (x4 < (q_nm M 121 x3) → ((0 ≤ (w32 ((w32 (x2 + (2 : Int))) + x4)) ∧ (w32 ((w32 (x2 + (2 : Int))) + x4)) < 2100) ∧ ((0 ≤ (w32 ((w32 ((104 : Int) * x3)) + x4)) ∧ (w32 ((w32 ((104 : Int) * x3)) + x4)) < 2080) ∧ (∀ M1 : qM, M1 = q_wn M 122 (w32 ((w32 ((104 : Int) * x3)) + x4)) (q_nm M 67 (w32 ((w32 (x2 + (2 : Int))) + x4))) → q_lay M1 → (q_At q_m254 (q_WP q_Pr d) P 141 [(0, .inr (.inr 66)), (2, .inl x2), (3, .inl x3), (4, .inl (w32 (x4 + 1)))] [] M1 c s)))))))) : q_At q_m254 (q_WP q_Pr d) P 141 [(0, .inr (.inr 66)), (2, .inl x2), (3, .inl x3), (4, .inl x4)] [] M c s := by
  refine s_254_141 ?_
  rw [lk66 hl, lr66_75 hl, ll121 hl, lk121 hl, lr66_0 hl, ll67 hl, lk67 hl, lr66_76 hl, ll122 hl, lk122 hl]
  refine ⟨rfl, ?_⟩
  refine ⟨⟨rfl, h.1⟩, ?_⟩
  replace h := h.2
  refine ⟨?_, ?_⟩
  · replace h := h.1
    intro g
    replace h := h g
    refine ⟨rfl, ?_⟩
    refine ⟨⟨rfl, h.1⟩, ?_⟩
    replace h := h.2
    exact h
  · replace h := h.2
    intro g
    replace h := h g
    refine ⟨rfl, ?_⟩
    refine ⟨rfl, ?_⟩
    refine ⟨⟨rfl, h.1⟩, ?_⟩
    replace h := h.2
    refine ⟨⟨⟨by decide, rfl⟩, h.1⟩, ?_⟩
    replace h := h.2
    intro M1
    have hlM1 : q_lay M1 := q_lay_wn hl
    replace h := h M1 rfl hlM1
    exact h
end
