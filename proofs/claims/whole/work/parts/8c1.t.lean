section
theorem t_186_0 {d : Nat} {P : Int → qM → Prop} {M : qM} {c s : Nat} (hl : q_lay M) (h : q_WP q_Pr d 184 [.inr (.inr 66), .inl (4 : Int)] M (fun v1 M2 => q_lay M2 ∧ (P v1 M2))) : q_At q_m186 (q_WP q_Pr d) P 0 [(0, .inr (.inr 66))] [] M c s := by
  refine s_186_0 ?_
  rw [lk66 hl]
  refine ⟨rfl, ?_⟩
  refine q_WP_mono _ _ _ _ _ _ (fun v1 M2 hh => ?_) h
  obtain ⟨hlM2, h⟩ := hh
  exact h
theorem t_187_0 {d : Nat} {P : Int → qM → Prop} {x1 : Int} {M : qM} {c s : Nat} (hl : q_lay M) (h : ((¬ x1 = 0 → ((¬ x1 = (1 : Int) → (P (-1 : Int) M)) ∧ (x1 = (1 : Int) → (P (q_nm M 66 8) M)))) ∧ (x1 = 0 → (P (q_nm M 66 7) M)))) : q_At q_m187 (q_WP q_Pr d) P 0 [(0, .inr (.inr 66)), (1, .inl x1)] [] M c s := by
  refine s_187_0 ?_
  rw [lk66 hl]
  refine ⟨?_, ?_⟩
  · replace h := h.1
    intro g
    replace h := h g
    refine ⟨?_, ?_⟩
    · replace h := h.1
      intro g
      replace h := h g
      exact h
    · replace h := h.2
      intro g
      replace h := h g
      refine ⟨rfl, ?_⟩
      exact h
  · replace h := h.2
    intro g
    replace h := h g
    refine ⟨rfl, ?_⟩
    exact h
theorem t_189_0 {d : Nat} {P : Int → qM → Prop} {x1 x2 : Int} {M : qM} {c s : Nat} (hl : q_lay M) (h : ((0 ≤ x1 ∧ x1 < 30) ∧ ((0 ≤ x2 ∧ x2 < 30) ∧ (((q_nm M 94 x1) = (q_nm M 94 x2) → (q_At q_m189 (q_WP q_Pr d) P 19 [(0, .inr (.inr 66)), (1, .inl x1), (2, .inl x2), (3, .inl (0 : Int))] [] M c s)) ∧ (¬ (q_nm M 94 x1) = (q_nm M 94 x2) → (P (0 : Int) M)))))) : q_At q_m189 (q_WP q_Pr d) P 0 [(0, .inr (.inr 66)), (1, .inl x1), (2, .inl x2)] [] M c s := by
  refine s_189_0 ?_
  rw [lk66 hl, lr66_36 hl, ll94 hl, lk94 hl]
  refine ⟨rfl, ?_⟩
  refine ⟨⟨rfl, h.1⟩, ?_⟩
  replace h := h.2
  refine ⟨rfl, ?_⟩
  refine ⟨⟨rfl, h.1⟩, ?_⟩
  replace h := h.2
  refine ⟨?_, ?_⟩
  · replace h := h.1
    intro g
    replace h := h g
    exact h
  · replace h := h.2
    intro g
    replace h := h g
    refine ⟨⟨by decide, by decide⟩, ?_⟩
    exact h
theorem t_189_19 {d : Nat} {P : Int → qM → Prop} {x1 x2 x3 : Int} {M : qM} {c s : Nat} (hl : q_lay M) (h : ((0 ≤ x1 ∧ x1 < 30) ∧ (((q_nm M 94 x1) ≤ x3 → (P (1 : Int) M)) ∧ (x3 < (q_nm M 94 x1) → ((0 ≤ (w32 ((w32 ((8 : Int) * x1)) + x3)) ∧ (w32 ((w32 ((8 : Int) * x1)) + x3)) < 240) ∧ ((0 ≤ (w32 ((w32 ((8 : Int) * x2)) + x3)) ∧ (w32 ((w32 ((8 : Int) * x2)) + x3)) < 240) ∧ (((q_nm M 92 (w32 ((w32 ((8 : Int) * x1)) + x3))) = (q_nm M 92 (w32 ((w32 ((8 : Int) * x2)) + x3))) → (q_At q_m189 (q_WP q_Pr d) P 19 [(0, .inr (.inr 66)), (1, .inl x1), (2, .inl x2), (3, .inl (w32 (x3 + 1)))] [] M c s)) ∧ (¬ (q_nm M 92 (w32 ((w32 ((8 : Int) * x1)) + x3))) = (q_nm M 92 (w32 ((w32 ((8 : Int) * x2)) + x3))) → (P (0 : Int) M))))))))) : q_At q_m189 (q_WP q_Pr d) P 19 [(0, .inr (.inr 66)), (1, .inl x1), (2, .inl x2), (3, .inl x3)] [] M c s := by
  refine s_189_19 ?_
  rw [lk66 hl, lr66_36 hl, ll94 hl, lk94 hl, lr66_34 hl, ll92 hl, lk92 hl]
  refine ⟨rfl, ?_⟩
  refine ⟨⟨rfl, h.1⟩, ?_⟩
  replace h := h.2
  refine ⟨?_, ?_⟩
  · replace h := h.1
    intro g
    replace h := h g
    refine ⟨⟨by decide, by decide⟩, ?_⟩
    exact h
  · replace h := h.2
    intro g
    replace h := h g
    refine ⟨rfl, ?_⟩
    refine ⟨⟨rfl, h.1⟩, ?_⟩
    replace h := h.2
    refine ⟨rfl, ?_⟩
    refine ⟨⟨rfl, h.1⟩, ?_⟩
    replace h := h.2
    refine ⟨?_, ?_⟩
    · replace h := h.1
      intro g
      replace h := h g
      exact h
    · replace h := h.2
      intro g
      replace h := h g
      refine ⟨⟨by decide, by decide⟩, ?_⟩
      exact h
theorem t_190_0 {d : Nat} {P : Int → qM → Prop} {x1 x2 : Int} {M : qM} {c s : Nat} (hl : q_lay M) (h : (∀ M1 : qM, M1 = q_wn M 66 65 (0 : Int) → q_lay M1 → (q_At q_m190 (q_WP q_Pr d) P 7 [(0, .inr (.inr 66)), (1, .inl x1), (2, .inl x2), (3, .inl (0 : Int))] [] M1 c s))) : q_At q_m190 (q_WP q_Pr d) P 0 [(0, .inr (.inr 66)), (1, .inl x1), (2, .inl x2)] [] M c s := by
  refine s_190_0 ?_
  rw [lk66 hl]
  refine ⟨rfl, ?_⟩
  intro M1
  have hlM1 : q_lay M1 := q_lay_wn hl
  replace h := h M1 rfl hlM1
  exact h
theorem t_190_7 {d : Nat} {P : Int → qM → Prop} {x1 x2 x3 : Int} {M : qM} {c s : Nat} (hl : q_lay M) (h : ((x1 = (-1 : Int) → ((0 ≤ x2 ∧ x2 < 30) ∧ (q_At q_m190 (q_WP q_Pr d) P 50 [(0, .inr (.inr 66)), (2, .inl x2), (3, .inl (q_nm M 94 x2))] [] M c s))) ∧ (¬ x1 = (-1 : Int) → ((0 ≤ x1 ∧ x1 < 30) ∧ (((q_nm M 94 x1) ≤ x3 → ((0 ≤ x2 ∧ x2 < 30) ∧ (q_At q_m190 (q_WP q_Pr d) P 50 [(0, .inr (.inr 66)), (2, .inl x2), (3, .inl (q_nm M 94 x2))] [] M c s))) ∧ (x3 < (q_nm M 94 x1) → ((0 ≤ (w32 ((w32 ((8 : Int) * x1)) + x3)) ∧ (w32 ((w32 ((8 : Int) * x1)) + x3)) < 240) ∧ q_WP q_Pr d 192 [.inr (.inr 66), .inl (q_nm M 92 (w32 ((w32 ((8 : Int) * x1)) + x3)))] M (fun v1 M2 => q_lay M2 ∧ (q_At q_m190 (q_WP q_Pr d) P 7 [(0, .inr (.inr 66)), (1, .inl x1), (2, .inl x2), (3, .inl (w32 (x3 + 1)))] [] M2 c s))))))))) : q_At q_m190 (q_WP q_Pr d) P 7 [(0, .inr (.inr 66)), (1, .inl x1), (2, .inl x2), (3, .inl x3)] [] M c s := by
  refine s_190_7 ?_
  rw [lk66 hl, lr66_36 hl, ll94 hl, lk94 hl, lr66_34 hl, ll92 hl, lk92 hl]
  refine ⟨?_, ?_⟩
  · replace h := h.1
    intro g
    replace h := h g
    refine ⟨rfl, ?_⟩
    refine ⟨⟨rfl, h.1⟩, ?_⟩
    replace h := h.2
    exact h
  · replace h := h.2
    intro g
    replace h := h g
    refine ⟨rfl, ?_⟩
    refine ⟨⟨rfl, h.1⟩, ?_⟩
    replace h := h.2
    refine ⟨?_, ?_⟩
    · replace h := h.1
      intro g
      replace h := h g
      refine ⟨rfl, ?_⟩
      refine ⟨⟨rfl, h.1⟩, ?_⟩
      replace h := h.2
      exact h
    · replace h := h.2
      intro g
      replace h := h g
      refine ⟨rfl, ?_⟩
      refine ⟨⟨rfl, h.1⟩, ?_⟩
      replace h := h.2
      refine ⟨rfl, ?_⟩
      refine q_WP_mono _ _ _ _ _ _ (fun v1 M2 hh => ?_) h
      obtain ⟨hlM2, h⟩ := hh
      exact h
theorem t_190_50 {d : Nat} {P : Int → qM → Prop} {x2 x3 : Int} {M : qM} {c s : Nat} (hl : q_lay M) (h : ((0 ≤ x2 ∧ x2 < 30) ∧ (((q_nm M 93 x2) ≤ x3 → (P (0 : Int) M)) ∧ (x3 < (q_nm M 93 x2) → ((0 ≤ (w32 ((w32 ((8 : Int) * x2)) + x3)) ∧ (w32 ((w32 ((8 : Int) * x2)) + x3)) < 240) ∧ q_WP q_Pr d 192 [.inr (.inr 66), .inl (q_nm M 92 (w32 ((w32 ((8 : Int) * x2)) + x3)))] M (fun v1 M2 => q_lay M2 ∧ (q_At q_m190 (q_WP q_Pr d) P 50 [(0, .inr (.inr 66)), (2, .inl x2), (3, .inl (w32 (x3 + 1)))] [] M2 c s))))))) : q_At q_m190 (q_WP q_Pr d) P 50 [(0, .inr (.inr 66)), (2, .inl x2), (3, .inl x3)] [] M c s := by
  refine s_190_50 ?_
  rw [lk66 hl, lr66_35 hl, ll93 hl, lk93 hl, lr66_34 hl, ll92 hl, lk92 hl]
  refine ⟨rfl, ?_⟩
  refine ⟨⟨rfl, h.1⟩, ?_⟩
  replace h := h.2
  refine ⟨?_, ?_⟩
  · replace h := h.1
    intro g
    replace h := h g
    exact h
  · replace h := h.2
    intro g
    replace h := h g
    refine ⟨rfl, ?_⟩
    refine ⟨⟨rfl, h.1⟩, ?_⟩
    replace h := h.2
    refine ⟨rfl, ?_⟩
    refine q_WP_mono _ _ _ _ _ _ (fun v1 M2 hh => ?_) h
    obtain ⟨hlM2, h⟩ := hh
    exact h
theorem t_191_0 {d : Nat} {P : Int → qM → Prop} {x1 : Int} {M : qM} {c s : Nat} (hl : q_lay M) (h : (∀ M1 : qM, M1 = q_wn M 66 65 (0 : Int) → q_lay M1 → (q_At q_m191 (q_WP q_Pr d) P 7 [(0, .inr (.inr 66)), (1, .inl x1), (2, .inl (0 : Int))] [] M1 c s))) : q_At q_m191 (q_WP q_Pr d) P 0 [(0, .inr (.inr 66)), (1, .inl x1)] [] M c s := by
  refine s_191_0 ?_
  rw [lk66 hl]
  refine ⟨rfl, ?_⟩
  intro M1
  have hlM1 : q_lay M1 := q_lay_wn hl
  replace h := h M1 rfl hlM1
  exact h
theorem t_191_7 {d : Nat} {P : Int → qM → Prop} {x1 x2 : Int} {M : qM} {c s : Nat} (hl : q_lay M) (h : ((0 ≤ x1 ∧ x1 < 30) ∧ (((q_nm M 93 x1) ≤ x2 → (P (0 : Int) M)) ∧ (x2 < (q_nm M 93 x1) → ((0 ≤ (w32 ((w32 ((8 : Int) * x1)) + x2)) ∧ (w32 ((w32 ((8 : Int) * x1)) + x2)) < 240) ∧ q_WP q_Pr d 192 [.inr (.inr 66), .inl (q_nm M 92 (w32 ((w32 ((8 : Int) * x1)) + x2)))] M (fun v1 M2 => q_lay M2 ∧ (q_At q_m191 (q_WP q_Pr d) P 7 [(0, .inr (.inr 66)), (1, .inl x1), (2, .inl (w32 (x2 + 1)))] [] M2 c s))))))) : q_At q_m191 (q_WP q_Pr d) P 7 [(0, .inr (.inr 66)), (1, .inl x1), (2, .inl x2)] [] M c s := by
  refine s_191_7 ?_
  rw [lk66 hl, lr66_35 hl, ll93 hl, lk93 hl, lr66_34 hl, ll92 hl, lk92 hl]
  refine ⟨rfl, ?_⟩
  refine ⟨⟨rfl, h.1⟩, ?_⟩
  replace h := h.2
  refine ⟨?_, ?_⟩
  · replace h := h.1
    intro g
    replace h := h g
    exact h
  · replace h := h.2
    intro g
    replace h := h g
    refine ⟨rfl, ?_⟩
    refine ⟨⟨rfl, h.1⟩, ?_⟩
    replace h := h.2
    refine ⟨rfl, ?_⟩
    refine q_WP_mono _ _ _ _ _ _ (fun v1 M2 hh => ?_) h
    obtain ⟨hlM2, h⟩ := hh
    exact h
theorem t_192_0 {d : Nat} {P : Int → qM → Prop} {x1 : Int} {M : qM} {c s : Nat} (hl : q_lay M) (h : ((0 ≤ (q_nm M 66 65) ∧ (q_nm M 66 65) < 16) ∧ (∀ M1 : qM, M1 = q_wn M 116 (q_nm M 66 65) x1 → q_lay M1 → (∀ M2 : qM, M2 = q_wn M1 66 65 (w32 ((q_nm M1 66 65) + (1 : Int))) → q_lay M2 → (P (0 : Int) M2))))) : q_At q_m192 (q_WP q_Pr d) P 0 [(0, .inr (.inr 66)), (1, .inl x1)] [] M c s := by
  refine s_192_0 ?_
  rw [lk66 hl, lr66_66 hl, ll116 hl, lk116 hl]
  refine ⟨rfl, ?_⟩
  refine ⟨rfl, ?_⟩
  refine ⟨⟨⟨by decide, rfl⟩, h.1⟩, ?_⟩
  replace h := h.2
  intro M1
  have hlM1 : q_lay M1 := q_lay_wn hl
  replace h := h M1 rfl hlM1
  rw [lk66 hlM1]
  refine ⟨rfl, ?_⟩
  refine ⟨rfl, ?_⟩
  intro M2
  have hlM2 : q_lay M2 := q_lay_wn hlM1
  replace h := h M2 rfl hlM2
  exact h
theorem t_193_0 {d : Nat} {P : Int → qM → Prop} {x1 : Int} {M : qM} {c s : Nat} (hl : q_lay M) (h : ((0 ≤ x1 ∧ x1 < 30) ∧ (((q_nm M 93 x1) = (q_nm M 66 65) → (q_At q_m193 (q_WP q_Pr d) P 17 [(0, .inr (.inr 66)), (1, .inl x1), (2, .inl (0 : Int))] [] M c s)) ∧ (¬ (q_nm M 93 x1) = (q_nm M 66 65) → (P (0 : Int) M))))) : q_At q_m193 (q_WP q_Pr d) P 0 [(0, .inr (.inr 66)), (1, .inl x1)] [] M c s := by
  refine s_193_0 ?_
  rw [lk66 hl, lr66_35 hl, ll93 hl, lk93 hl]
  refine ⟨rfl, ?_⟩
  refine ⟨⟨rfl, h.1⟩, ?_⟩
  replace h := h.2
  refine ⟨rfl, ?_⟩
  refine ⟨?_, ?_⟩
  · replace h := h.1
    intro g
    replace h := h g
    exact h
  · replace h := h.2
    intro g
    replace h := h g
    refine ⟨⟨by decide, by decide⟩, ?_⟩
    exact h
theorem t_193_17 {d : Nat} {P : Int → qM → Prop} {x1 x2 : Int} {M : qM} {c s : Nat} (hl : q_lay M) (h : (((q_nm M 66 65) ≤ x2 → (P (1 : Int) M)) ∧ (x2 < (q_nm M 66 65) → ((0 ≤ (w32 ((w32 ((8 : Int) * x1)) + x2)) ∧ (w32 ((w32 ((8 : Int) * x1)) + x2)) < 240) ∧ ((0 ≤ x2 ∧ x2 < 16) ∧ (((q_nm M 92 (w32 ((w32 ((8 : Int) * x1)) + x2))) = (q_nm M 116 x2) → (q_At q_m193 (q_WP q_Pr d) P 17 [(0, .inr (.inr 66)), (1, .inl x1), (2, .inl (w32 (x2 + 1)))] [] M c s)) ∧ (¬ (q_nm M 92 (w32 ((w32 ((8 : Int) * x1)) + x2))) = (q_nm M 116 x2) → (P (0 : Int) M)))))))) : q_At q_m193 (q_WP q_Pr d) P 17 [(0, .inr (.inr 66)), (1, .inl x1), (2, .inl x2)] [] M c s := by
  refine s_193_17 ?_
  rw [lk66 hl, lr66_34 hl, ll92 hl, lk92 hl, lr66_66 hl, ll116 hl, lk116 hl]
  refine ⟨rfl, ?_⟩
  refine ⟨?_, ?_⟩
  · replace h := h.1
    intro g
    replace h := h g
    refine ⟨⟨by decide, by decide⟩, ?_⟩
    exact h
  · replace h := h.2
    intro g
    replace h := h g
    refine ⟨rfl, ?_⟩
    refine ⟨⟨rfl, h.1⟩, ?_⟩
    replace h := h.2
    refine ⟨rfl, ?_⟩
    refine ⟨⟨rfl, h.1⟩, ?_⟩
    replace h := h.2
    refine ⟨?_, ?_⟩
    · replace h := h.1
      intro g
      replace h := h g
      exact h
    · replace h := h.2
      intro g
      replace h := h g
      refine ⟨⟨by decide, by decide⟩, ?_⟩
      exact h
theorem t_194_0 {d : Nat} {P : Int → qM → Prop} {M : qM} {c s : Nat} (hl : q_lay M) (h : (q_At q_m194 (q_WP q_Pr d) P 2 [(0, .inr (.inr 66)), (1, .inl (0 : Int))] [] M c s)) : q_At q_m194 (q_WP q_Pr d) P 0 [(0, .inr (.inr 66))] [] M c s := by
  refine s_194_0 ?_
  exact h
theorem t_194_2 {d : Nat} {P : Int → qM → Prop} {x1 : Int} {M : qM} {c s : Nat} (hl : q_lay M) (h : (((q_nm M 66 33) ≤ x1 → (P (-1 : Int) M)) ∧ (x1 < (q_nm M 66 33) → q_WP q_Pr d 193 [.inr (.inr 66), .inl x1] M (fun v1 M2 => q_lay M2 ∧ ((v1 = 0 → (q_At q_m194 (q_WP q_Pr d) P 2 [(0, .inr (.inr 66)), (1, .inl (w32 (x1 + 1)))] [] M2 c s)) ∧ (¬ v1 = 0 → (P x1 M2))))))) : q_At q_m194 (q_WP q_Pr d) P 2 [(0, .inr (.inr 66)), (1, .inl x1)] [] M c s := by
  refine s_194_2 ?_
  rw [lk66 hl]
  refine ⟨rfl, ?_⟩
  refine ⟨?_, ?_⟩
  · replace h := h.1
    intro g
    replace h := h g
    exact h
  · replace h := h.2
    intro g
    replace h := h g
    refine ⟨rfl, ?_⟩
    refine q_WP_mono _ _ _ _ _ _ (fun v1 M2 hh => ?_) h
    obtain ⟨hlM2, h⟩ := hh
    refine ⟨?_, ?_⟩
    · replace h := h.1
      intro g
      replace h := h g
      exact h
    · replace h := h.2
      intro g
      replace h := h g
      exact h
theorem t_195_0 {d : Nat} {P : Int → qM → Prop} {x1 x2 : Int} {M : qM} {c s : Nat} (hl : q_lay M) (h : ((0 ≤ x1 ∧ x1 < 30) ∧ ((0 ≤ x2 ∧ x2 < 30) ∧ (((q_nm M 93 x2) ≤ (q_nm M 93 x1) → ((0 ≤ x1 ∧ x1 < 30) ∧ ((0 ≤ x2 ∧ x2 < 30) ∧ (((q_nm M 93 x2) ≤ (q_nm M 93 x1) → ((0 ≤ x1 ∧ x1 < 30) ∧ ((0 ≤ x2 ∧ x2 < 30) ∧ (((w32 ((q_nm M 93 x1) - (q_nm M 93 x2))) ≤ (1 : Int) → (q_At q_m195 (q_WP q_Pr d) P 66 [(0, .inr (.inr 66)), (3, .inl x2), (4, .inl x1), (5, .inl (0 : Int))] [] M c s)) ∧ ((1 : Int) < (w32 ((q_nm M 93 x1) - (q_nm M 93 x2))) → (P (0 : Int) M)))))) ∧ ((q_nm M 93 x1) < (q_nm M 93 x2) → ((0 ≤ x2 ∧ x2 < 30) ∧ ((0 ≤ x2 ∧ x2 < 30) ∧ (((w32 ((q_nm M 93 x2) - (q_nm M 93 x2))) ≤ (1 : Int) → (q_At q_m195 (q_WP q_Pr d) P 66 [(0, .inr (.inr 66)), (3, .inl x2), (4, .inl x2), (5, .inl (0 : Int))] [] M c s)) ∧ ((1 : Int) < (w32 ((q_nm M 93 x2) - (q_nm M 93 x2))) → (P (0 : Int) M)))))))))) ∧ ((q_nm M 93 x1) < (q_nm M 93 x2) → ((0 ≤ x1 ∧ x1 < 30) ∧ ((0 ≤ x2 ∧ x2 < 30) ∧ (((q_nm M 93 x2) ≤ (q_nm M 93 x1) → ((0 ≤ x1 ∧ x1 < 30) ∧ ((0 ≤ x1 ∧ x1 < 30) ∧ (((w32 ((q_nm M 93 x1) - (q_nm M 93 x1))) ≤ (1 : Int) → (q_At q_m195 (q_WP q_Pr d) P 66 [(0, .inr (.inr 66)), (3, .inl x1), (4, .inl x1), (5, .inl (0 : Int))] [] M c s)) ∧ ((1 : Int) < (w32 ((q_nm M 93 x1) - (q_nm M 93 x1))) → (P (0 : Int) M)))))) ∧ ((q_nm M 93 x1) < (q_nm M 93 x2) → ((0 ≤ x2 ∧ x2 < 30) ∧ ((0 ≤ x1 ∧ x1 < 30) ∧ (((w32 ((q_nm M 93 x2) - (q_nm M 93 x1))) ≤ (1 : Int) → (q_At q_m195 (q_WP q_Pr d) P 66 [(0, .inr (.inr 66)), (3, .inl x1), (4, .inl x2), (5, .inl (0 : Int))] [] M c s)) ∧ ((1 : Int) < (w32 ((q_nm M 93 x2) - (q_nm M 93 x1))) → (P (0 : Int) M)))))))))))))) : q_At q_m195 (q_WP q_Pr d) P 0 [(0, .inr (.inr 66)), (1, .inl x1), (2, .inl x2)] [] M c s := by
  refine s_195_0 ?_
  rw [lk66 hl, lr66_35 hl, ll93 hl, lk93 hl]
  refine ⟨rfl, ?_⟩
  refine ⟨⟨rfl, h.1⟩, ?_⟩
  replace h := h.2
  refine ⟨rfl, ?_⟩
  refine ⟨⟨rfl, h.1⟩, ?_⟩
  replace h := h.2
  refine ⟨?_, ?_⟩
  · replace h := h.1
    intro g
    replace h := h g
    refine ⟨rfl, ?_⟩
    refine ⟨⟨rfl, h.1⟩, ?_⟩
    replace h := h.2
    refine ⟨rfl, ?_⟩
    refine ⟨⟨rfl, h.1⟩, ?_⟩
    replace h := h.2
    refine ⟨?_, ?_⟩
    · replace h := h.1
      intro g
      replace h := h g
      refine ⟨rfl, ?_⟩
      refine ⟨⟨rfl, h.1⟩, ?_⟩
      replace h := h.2
      refine ⟨rfl, ?_⟩
      refine ⟨⟨rfl, h.1⟩, ?_⟩
      replace h := h.2
      refine ⟨?_, ?_⟩
      · replace h := h.1
        intro g
        replace h := h g
        exact h
      · replace h := h.2
        intro g
        replace h := h g
        refine ⟨⟨by decide, by decide⟩, ?_⟩
        exact h
    · replace h := h.2
      intro g
      replace h := h g
      refine ⟨rfl, ?_⟩
      refine ⟨⟨rfl, h.1⟩, ?_⟩
      replace h := h.2
      refine ⟨rfl, ?_⟩
      refine ⟨⟨rfl, h.1⟩, ?_⟩
      replace h := h.2
      refine ⟨?_, ?_⟩
      · replace h := h.1
        intro g
        replace h := h g
        exact h
      · replace h := h.2
        intro g
        replace h := h g
        refine ⟨⟨by decide, by decide⟩, ?_⟩
        exact h
  · replace h := h.2
    intro g
    replace h := h g
    refine ⟨rfl, ?_⟩
    refine ⟨⟨rfl, h.1⟩, ?_⟩
    replace h := h.2
    refine ⟨rfl, ?_⟩
    refine ⟨⟨rfl, h.1⟩, ?_⟩
    replace h := h.2
    refine ⟨?_, ?_⟩
    · replace h := h.1
      intro g
      replace h := h g
      refine ⟨rfl, ?_⟩
      refine ⟨⟨rfl, h.1⟩, ?_⟩
      replace h := h.2
      refine ⟨rfl, ?_⟩
      refine ⟨⟨rfl, h.1⟩, ?_⟩
      replace h := h.2
      refine ⟨?_, ?_⟩
      · replace h := h.1
        intro g
        replace h := h g
        exact h
      · replace h := h.2
        intro g
        replace h := h g
        refine ⟨⟨by decide, by decide⟩, ?_⟩
        exact h
    · replace h := h.2
      intro g
      replace h := h g
      refine ⟨rfl, ?_⟩
      refine ⟨⟨rfl, h.1⟩, ?_⟩
      replace h := h.2
      refine ⟨rfl, ?_⟩
      refine ⟨⟨rfl, h.1⟩, ?_⟩
      replace h := h.2
      refine ⟨?_, ?_⟩
      · replace h := h.1
        intro g
        replace h := h g
        exact h
      · replace h := h.2
        intro g
        replace h := h g
        refine ⟨⟨by decide, by decide⟩, ?_⟩
        exact h
theorem t_195_66 {d : Nat} {P : Int → qM → Prop} {x3 x4 x5 : Int} {M : qM} {c s : Nat} (hl : q_lay M) (h : ((0 ≤ x3 ∧ x3 < 30) ∧ (((q_nm M 93 x3) ≤ x5 → (q_At q_m195 (q_WP q_Pr d) P 114 [(0, .inr (.inr 66)), (3, .inl x3), (4, .inl x4), (5, .inl x5), (6, .inl (0 : Int))] [] M c s)) ∧ (x5 < (q_nm M 93 x3) → ((0 ≤ (w32 ((w32 ((8 : Int) * x3)) + x5)) ∧ (w32 ((w32 ((8 : Int) * x3)) + x5)) < 240) ∧ ((0 ≤ (w32 ((w32 ((8 : Int) * x4)) + x5)) ∧ (w32 ((w32 ((8 : Int) * x4)) + x5)) < 240) ∧ ((¬ (q_nm M 92 (w32 ((w32 ((8 : Int) * x3)) + x5))) = (q_nm M 92 (w32 ((w32 ((8 : Int) * x4)) + x5))) → (q_At q_m195 (q_WP q_Pr d) P 114 [(0, .inr (.inr 66)), (3, .inl x3), (4, .inl x4), (5, .inl x5), (6, .inl (0 : Int))] [] M c s)) ∧ ((q_nm M 92 (w32 ((w32 ((8 : Int) * x3)) + x5))) = (q_nm M 92 (w32 ((w32 ((8 : Int) * x4)) + x5))) → (q_At q_m195 (q_WP q_Pr d) P 66 [(0, .inr (.inr 66)), (3, .inl x3), (4, .inl x4), (5, .inl (w32 (x5 + 1)))] [] M c s))))))))) : q_At q_m195 (q_WP q_Pr d) P 66 [(0, .inr (.inr 66)), (3, .inl x3), (4, .inl x4), (5, .inl x5)] [] M c s := by
  refine s_195_66 ?_
  rw [lk66 hl, lr66_35 hl, ll93 hl, lk93 hl, lr66_34 hl, ll92 hl, lk92 hl]
  refine ⟨rfl, ?_⟩
  refine ⟨⟨rfl, h.1⟩, ?_⟩
  replace h := h.2
  refine ⟨?_, ?_⟩
  · replace h := h.1
    intro g
    replace h := h g
    exact h
  · replace h := h.2
    intro g
    replace h := h g
    refine ⟨rfl, ?_⟩
    refine ⟨⟨rfl, h.1⟩, ?_⟩
    replace h := h.2
    refine ⟨rfl, ?_⟩
    refine ⟨⟨rfl, h.1⟩, ?_⟩
    replace h := h.2
    refine ⟨?_, ?_⟩
    · replace h := h.1
      intro g
      replace h := h g
      exact h
    · replace h := h.2
      intro g
      replace h := h g
      exact h
theorem t_195_114 {d : Nat} {P : Int → qM → Prop} {x3 x4 x5 x6 : Int} {M : qM} {c s : Nat} (hl : q_lay M) (h : ((0 ≤ x3 ∧ x3 < 30) ∧ (((w32 ((q_nm M 93 x3) - x5)) ≤ x6 → ((0 ≤ x3 ∧ x3 < 30) ∧ ((0 ≤ x4 ∧ x4 < 30) ∧ ((¬ (q_nm M 93 x3) = (q_nm M 93 x4) → ((0 ≤ x3 ∧ x3 < 30) ∧ ((¬ (w32 (x5 + x6)) = (q_nm M 93 x3) → (P (0 : Int) M)) ∧ ((w32 (x5 + x6)) = (q_nm M 93 x3) → (P (1 : Int) M))))) ∧ ((q_nm M 93 x3) = (q_nm M 93 x4) → ((0 ≤ x3 ∧ x3 < 30) ∧ ((¬ (w32 (x5 + x6)) = (w32 ((q_nm M 93 x3) - (1 : Int))) → (P (0 : Int) M)) ∧ ((w32 (x5 + x6)) = (w32 ((q_nm M 93 x3) - (1 : Int))) → (P (1 : Int) M))))))))) ∧ (x6 < (w32 ((q_nm M 93 x3) - x5)) → ((0 ≤ x3 ∧ x3 < 30) ∧ ((0 ≤ (w32 ((w32 ((w32 ((w32 ((8 : Int) * x3)) + (q_nm M 93 x3))) - (1 : Int))) - x6)) ∧ (w32 ((w32 ((w32 ((w32 ((8 : Int) * x3)) + (q_nm M 93 x3))) - (1 : Int))) - x6)) < 240) ∧ ((0 ≤ x4 ∧ x4 < 30) ∧ ((0 ≤ (w32 ((w32 ((w32 ((w32 ((8 : Int) * x4)) + (q_nm M 93 x4))) - (1 : Int))) - x6)) ∧ (w32 ((w32 ((w32 ((w32 ((8 : Int) * x4)) + (q_nm M 93 x4))) - (1 : Int))) - x6)) < 240) ∧ ((¬ (q_nm M 92 (w32 ((w32 ((w32 ((w32 ((8 : Int) * x3)) + (q_nm M 93 x3))) - (1 : Int))) - x6))) = (q_nm M 92 (w32 ((w32 ((w32 ((w32 ((8 : Int) * x4)) + (q_nm M 93 x4))) - (1 : Int))) - x6))) → ((0 ≤ x3 ∧ x3 < 30) ∧ ((0 ≤ x4 ∧ x4 < 30) ∧ ((¬ (q_nm M 93 x3) = (q_nm M 93 x4) → ((0 ≤ x3 ∧ x3 < 30) ∧ ((¬ (w32 (x5 + x6)) = (q_nm M 93 x3) → (P (0 : Int) M)) ∧ ((w32 (x5 + x6)) = (q_nm M 93 x3) → (P (1 : Int) M))))) ∧ ((q_nm M 93 x3) = (q_nm M 93 x4) → ((0 ≤ x3 ∧ x3 < 30) ∧ ((¬ (w32 (x5 + x6)) = (w32 ((q_nm M 93 x3) - (1 : Int))) → (P (0 : Int) M)) ∧ ((w32 (x5 + x6)) = (w32 ((q_nm M 93 x3) - (1 : Int))) → (P (1 : Int) M))))))))) ∧ ((q_nm M 92 (w32 ((w32 ((w32 ((w32 ((8 : Int) * x3)) + (q_nm M 93 x3))) - (1 : Int))) - x6))) = (q_nm M 92 (w32 ((w32 ((w32 ((w32 ((8 : Int) * x4)) + (q_nm M 93 x4))) - (1 : Int))) - x6))) → (q_At q_m195 (q_WP q_Pr d) P 114 [(0, .inr (.inr 66)), (3, .inl x3), (4, .inl x4), (5, .inl x5), (6, .inl (w32 (x6 + 1)))] [] M c s))))))))))) : q_At q_m195 (q_WP q_Pr d) P 114 [(0, .inr (.inr 66)), (3, .inl x3), (4, .inl x4), (5, .inl x5), (6, .inl x6)] [] M c s := by
  refine s_195_114 ?_
  rw [lk66 hl, lr66_35 hl, ll93 hl, lk93 hl, lr66_34 hl, ll92 hl, lk92 hl]
  refine ⟨rfl, ?_⟩
  refine ⟨⟨rfl, h.1⟩, ?_⟩
  replace h := h.2
  refine ⟨?_, ?_⟩
  · replace h := h.1
    intro g
    replace h := h g
    refine ⟨rfl, ?_⟩
    refine ⟨⟨rfl, h.1⟩, ?_⟩
    replace h := h.2
    refine ⟨rfl, ?_⟩
    refine ⟨⟨rfl, h.1⟩, ?_⟩
    replace h := h.2
    refine ⟨?_, ?_⟩
    · replace h := h.1
      intro g
      replace h := h g
      refine ⟨rfl, ?_⟩
      refine ⟨⟨rfl, h.1⟩, ?_⟩
      replace h := h.2
      refine ⟨?_, ?_⟩
      · replace h := h.1
        intro g
        replace h := h g
        refine ⟨⟨by decide, by decide⟩, ?_⟩
        exact h
      · replace h := h.2
        intro g
        replace h := h g
        refine ⟨⟨by decide, by decide⟩, ?_⟩
        exact h
    · replace h := h.2
      intro g
      replace h := h g
      refine ⟨rfl, ?_⟩
      refine ⟨⟨rfl, h.1⟩, ?_⟩
      replace h := h.2
      refine ⟨?_, ?_⟩
      · replace h := h.1
        intro g
        replace h := h g
        refine ⟨⟨by decide, by decide⟩, ?_⟩
        exact h
      · replace h := h.2
        intro g
        replace h := h g
        refine ⟨⟨by decide, by decide⟩, ?_⟩
        exact h
  · replace h := h.2
    intro g
    replace h := h g
    refine ⟨rfl, ?_⟩
    refine ⟨rfl, ?_⟩
    refine ⟨⟨rfl, h.1⟩, ?_⟩
    replace h := h.2
    refine ⟨⟨rfl, h.1⟩, ?_⟩
    replace h := h.2
    refine ⟨rfl, ?_⟩
    refine ⟨rfl, ?_⟩
    refine ⟨⟨rfl, h.1⟩, ?_⟩
    replace h := h.2
    refine ⟨⟨rfl, h.1⟩, ?_⟩
    replace h := h.2
    refine ⟨?_, ?_⟩
    · replace h := h.1
      intro g
      replace h := h g
      refine ⟨rfl, ?_⟩
      refine ⟨⟨rfl, h.1⟩, ?_⟩
      replace h := h.2
      refine ⟨rfl, ?_⟩
      refine ⟨⟨rfl, h.1⟩, ?_⟩
      replace h := h.2
      refine ⟨?_, ?_⟩
      · replace h := h.1
        intro g
        replace h := h g
        refine ⟨rfl, ?_⟩
        refine ⟨⟨rfl, h.1⟩, ?_⟩
        replace h := h.2
        refine ⟨?_, ?_⟩
        · replace h := h.1
          intro g
          replace h := h g
          refine ⟨⟨by decide, by decide⟩, ?_⟩
          exact h
        · replace h := h.2
          intro g
          replace h := h g
          refine ⟨⟨by decide, by decide⟩, ?_⟩
          exact h
      · replace h := h.2
        intro g
        replace h := h g
        refine ⟨rfl, ?_⟩
        refine ⟨⟨rfl, h.1⟩, ?_⟩
        replace h := h.2
        refine ⟨?_, ?_⟩
        · replace h := h.1
          intro g
          replace h := h g
          refine ⟨⟨by decide, by decide⟩, ?_⟩
          exact h
        · replace h := h.2
          intro g
          replace h := h g
          refine ⟨⟨by decide, by decide⟩, ?_⟩
          exact h
    · replace h := h.2
      intro g
      replace h := h g
      exact h
theorem t_196_0 {d : Nat} {P : Int → qM → Prop} {x1 x2 x3 : Int} {M : qM} {c s : Nat} (hl : q_lay M) (h : (((0 ≤ x2 ∧ x2 < 12) ∧ 0 ≤ x3 ∧ x3 < 6) ∧ ((0 ≤ x1 ∧ x1 < 640) ∧ ((0 ≤ x1 ∧ x1 < 640) ∧ ((¬ x3 = (q_nm M 109 x1) → ((0 ≤ x1 ∧ x1 < 640) ∧ ((¬ x3 = (q_nm M 110 x1) → (q_At q_m196 (q_WP q_Pr (d + 1)) P 60 [(0, .inr (.inr 66)), (1, .inl x1), (2, .inl x2), (4, .inl (q_nm M 99 (6 * x2 + x3))), (5, .inl (q_nm M 108 x1)), (6, .inl (0 : Int))] [.inl (0 : Int)] M c s)) ∧ (x3 = (q_nm M 110 x1) → (((q_nm M 108 x1) = (3 : Int) → (q_At q_m196 (q_WP q_Pr (d + 1)) P 60 [(0, .inr (.inr 66)), (1, .inl x1), (2, .inl x2), (4, .inl (q_nm M 99 (6 * x2 + x3))), (5, .inl (q_nm M 108 x1)), (6, .inl (0 : Int))] [.inl (1 : Int)] M c s)) ∧ (¬ (q_nm M 108 x1) = (3 : Int) → ((¬ (q_nm M 108 x1) = (4 : Int) → (q_At q_m196 (q_WP q_Pr (d + 1)) P 60 [(0, .inr (.inr 66)), (1, .inl x1), (2, .inl x2), (4, .inl (q_nm M 99 (6 * x2 + x3))), (5, .inl (q_nm M 108 x1)), (6, .inl (0 : Int))] [.inl (0 : Int)] M c s)) ∧ ((q_nm M 108 x1) = (4 : Int) → (q_At q_m196 (q_WP q_Pr (d + 1)) P 60 [(0, .inr (.inr 66)), (1, .inl x1), (2, .inl x2), (4, .inl (q_nm M 99 (6 * x2 + x3))), (5, .inl (q_nm M 108 x1)), (6, .inl (0 : Int))] [.inl (1 : Int)] M c s))))))))) ∧ (x3 = (q_nm M 109 x1) → ((0 ≤ x1 ∧ x1 < 640) ∧ ((¬ x3 = (q_nm M 110 x1) → (q_At q_m196 (q_WP q_Pr (d + 1)) P 60 [(0, .inr (.inr 66)), (1, .inl x1), (2, .inl x2), (4, .inl (q_nm M 99 (6 * x2 + x3))), (5, .inl (q_nm M 108 x1)), (6, .inl (1 : Int))] [.inl (0 : Int)] M c s)) ∧ (x3 = (q_nm M 110 x1) → (((q_nm M 108 x1) = (3 : Int) → (q_At q_m196 (q_WP q_Pr (d + 1)) P 60 [(0, .inr (.inr 66)), (1, .inl x1), (2, .inl x2), (4, .inl (q_nm M 99 (6 * x2 + x3))), (5, .inl (q_nm M 108 x1)), (6, .inl (1 : Int))] [.inl (1 : Int)] M c s)) ∧ (¬ (q_nm M 108 x1) = (3 : Int) → ((¬ (q_nm M 108 x1) = (4 : Int) → (q_At q_m196 (q_WP q_Pr (d + 1)) P 60 [(0, .inr (.inr 66)), (1, .inl x1), (2, .inl x2), (4, .inl (q_nm M 99 (6 * x2 + x3))), (5, .inl (q_nm M 108 x1)), (6, .inl (1 : Int))] [.inl (0 : Int)] M c s)) ∧ ((q_nm M 108 x1) = (4 : Int) → (q_At q_m196 (q_WP q_Pr (d + 1)) P 60 [(0, .inr (.inr 66)), (1, .inl x1), (2, .inl x2), (4, .inl (q_nm M 99 (6 * x2 + x3))), (5, .inl (q_nm M 108 x1)), (6, .inl (1 : Int))] [.inl (1 : Int)] M c s)))))))))))))) : q_At q_m196 (q_WP q_Pr (d + 1)) P 0 [(0, .inr (.inr 66)), (1, .inl x1), (2, .inl x2), (3, .inl x3)] [] M c s := by
  refine s_196_0 ?_
  rw [lk66 hl]
  refine ⟨rfl, ?_⟩
  refine p_188 hl h.1 ?_
  replace h := h.2
  rw [lk66 hl, lr66_57 hl, ll108 hl, lk108 hl, lr66_58 hl, ll109 hl, lk109 hl, lr66_59 hl, ll110 hl, lk110 hl]
  refine ⟨rfl, ?_⟩
  refine ⟨⟨rfl, h.1⟩, ?_⟩
  replace h := h.2
  refine ⟨rfl, ?_⟩
  refine ⟨⟨rfl, h.1⟩, ?_⟩
  replace h := h.2
  refine ⟨?_, ?_⟩
  · replace h := h.1
    intro g
    replace h := h g
    refine ⟨rfl, ?_⟩
    refine ⟨⟨rfl, h.1⟩, ?_⟩
    replace h := h.2
    refine ⟨?_, ?_⟩
    · replace h := h.1
      intro g
      replace h := h g
      exact h
    · replace h := h.2
      intro g
      replace h := h g
      refine ⟨?_, ?_⟩
      · replace h := h.1
        intro g
        replace h := h g
        exact h
      · replace h := h.2
        intro g
        replace h := h g
        refine ⟨?_, ?_⟩
        · replace h := h.1
          intro g
          replace h := h g
          exact h
        · replace h := h.2
          intro g
          replace h := h g
          exact h
  · replace h := h.2
    intro g
    replace h := h g
    refine ⟨rfl, ?_⟩
    refine ⟨⟨rfl, h.1⟩, ?_⟩
    replace h := h.2
    refine ⟨?_, ?_⟩
    · replace h := h.1
      intro g
      replace h := h g
      exact h
    · replace h := h.2
      intro g
      replace h := h g
      refine ⟨?_, ?_⟩
      · replace h := h.1
        intro g
        replace h := h g
        exact h
      · replace h := h.2
        intro g
        replace h := h g
        refine ⟨?_, ?_⟩
        · replace h := h.1
          intro g
          replace h := h g
          exact h
        · replace h := h.2
          intro g
          replace h := h g
          exact h
theorem t_196_60 {d : Nat} {P : Int → qM → Prop} {x1 x2 x4 x5 x6 y0 : Int} {M : qM} {c s : Nat} (hl : q_lay M) (h : ((¬ x6 = 0 → (q_At q_m196 (q_WP q_Pr d) P 81 [(0, .inr (.inr 66)), (1, .inl x1), (2, .inl x2), (4, .inl x4), (5, .inl x5), (6, .inl x6)] [] M c s)) ∧ (x6 = 0 → ((¬ y0 = 0 → (q_At q_m196 (q_WP q_Pr d) P 81 [(0, .inr (.inr 66)), (1, .inl x1), (2, .inl x2), (4, .inl x4), (5, .inl x5), (6, .inl x6)] [] M c s)) ∧ (y0 = 0 → q_WP q_Pr d 191 [.inr (.inr 66), .inl x4] M (fun v1 M2 => q_lay M2 ∧ (q_At q_m196 (q_WP q_Pr d) P 207 [] [] M2 c s))))))) : q_At q_m196 (q_WP q_Pr d) P 60 [(0, .inr (.inr 66)), (1, .inl x1), (2, .inl x2), (4, .inl x4), (5, .inl x5), (6, .inl x6)] [.inl y0] M c s := by
  refine s_196_60 ?_
  rw [lk66 hl]
  refine ⟨?_, ?_⟩
  · replace h := h.1
    intro g
    replace h := h g
    exact h
  · replace h := h.2
    intro g
    replace h := h g
    refine ⟨?_, ?_⟩
    · replace h := h.1
      intro g
      replace h := h g
      exact h
    · replace h := h.2
      intro g
      replace h := h g
      refine ⟨rfl, ?_⟩
      refine q_WP_mono _ _ _ _ _ _ (fun v1 M2 hh => ?_) h
      obtain ⟨hlM2, h⟩ := hh
      exact h
theorem t_196_81 {d : Nat} {P : Int → qM → Prop} {x1 x2 x4 x5 x6 : Int} {M : qM} {c s : Nat} (hl : q_lay M) (h : (((4 : Int) ≤ x5 → ((¬ x5 = (4 : Int) → ((¬ x5 = (5 : Int) → ((¬ x5 = (8 : Int) → ((0 ≤ x1 ∧ x1 < 640) ∧ q_WP q_Pr (d + 1) 191 [.inr (.inr 66), .inl (q_nm M 110 x1)] M (fun v1 M2 => q_lay M2 ∧ (q_At q_m196 (q_WP q_Pr (d + 1)) P 207 [] [] M2 c s)))) ∧ (x5 = (8 : Int) → q_WP q_Pr (d + 1) 190 [.inr (.inr 66), .inl (-1 : Int), .inl x4] M (fun v3 M4 => q_lay M4 ∧ (q_At q_m196 (q_WP q_Pr (d + 1)) P 207 [] [] M4 c s))))) ∧ (x5 = (5 : Int) → ((0 ≤ x1 ∧ x1 < 640) ∧ q_WP q_Pr (d + 1) 190 [.inr (.inr 66), .inl x4, .inl (q_nm M 110 x1)] M (fun v5 M6 => q_lay M6 ∧ (q_At q_m196 (q_WP q_Pr (d + 1)) P 207 [] [] M6 c s)))))) ∧ (x5 = (4 : Int) → ((x6 = 0 → ((0 ≤ x1 ∧ x1 < 640) ∧ (((0 ≤ x2 ∧ x2 < 12) ∧ 0 ≤ (q_nm M 109 x1) ∧ (q_nm M 109 x1) < 6) ∧ q_WP q_Pr (d + 1) 191 [.inr (.inr 66), .inl (q_nm M 99 (6 * x2 + (q_nm M 109 x1)))] M (fun v9 M10 => q_lay M10 ∧ (q_At q_m196 (q_WP q_Pr (d + 1)) P 207 [] [] M10 c s))))) ∧ (¬ x6 = 0 → ((0 ≤ x1 ∧ x1 < 640) ∧ (((0 ≤ x2 ∧ x2 < 12) ∧ 0 ≤ (q_nm M 110 x1) ∧ (q_nm M 110 x1) < 6) ∧ q_WP q_Pr (d + 1) 191 [.inr (.inr 66), .inl (q_nm M 99 (6 * x2 + (q_nm M 110 x1)))] M (fun v13 M14 => q_lay M14 ∧ (q_At q_m196 (q_WP q_Pr (d + 1)) P 207 [] [] M14 c s))))))))) ∧ (x5 < (4 : Int) → ((x6 = 0 → ((0 ≤ x1 ∧ x1 < 640) ∧ (((0 ≤ x2 ∧ x2 < 12) ∧ 0 ≤ (q_nm M 109 x1) ∧ (q_nm M 109 x1) < 6) ∧ q_WP q_Pr (d + 1) 190 [.inr (.inr 66), .inl (q_nm M 99 (6 * x2 + (q_nm M 109 x1))), .inl x4] M (fun v17 M18 => q_lay M18 ∧ (q_At q_m196 (q_WP q_Pr (d + 1)) P 207 [] [] M18 c s))))) ∧ (¬ x6 = 0 → ((0 ≤ x1 ∧ x1 < 640) ∧ (((0 ≤ x2 ∧ x2 < 12) ∧ 0 ≤ (q_nm M 110 x1) ∧ (q_nm M 110 x1) < 6) ∧ q_WP q_Pr (d + 1) 190 [.inr (.inr 66), .inl (q_nm M 99 (6 * x2 + (q_nm M 110 x1))), .inl x4] M (fun v21 M22 => q_lay M22 ∧ (q_At q_m196 (q_WP q_Pr (d + 1)) P 207 [] [] M22 c s))))))))) : q_At q_m196 (q_WP q_Pr (d + 1)) P 81 [(0, .inr (.inr 66)), (1, .inl x1), (2, .inl x2), (4, .inl x4), (5, .inl x5), (6, .inl x6)] [] M c s := by
  refine s_196_81 ?_
  rw [lk66 hl, lr66_59 hl, ll110 hl, lk110 hl, lr66_58 hl, ll109 hl, lk109 hl]
  refine ⟨?_, ?_⟩
  · replace h := h.1
    intro g
    replace h := h g
    refine ⟨?_, ?_⟩
    · replace h := h.1
      intro g
      replace h := h g
      refine ⟨?_, ?_⟩
      · replace h := h.1
        intro g
        replace h := h g
        refine ⟨?_, ?_⟩
        · replace h := h.1
          intro g
          replace h := h g
          refine ⟨rfl, ?_⟩
          refine ⟨⟨rfl, h.1⟩, ?_⟩
          replace h := h.2
          refine ⟨rfl, ?_⟩
          refine q_WP_mono _ _ _ _ _ _ (fun v1 M2 hh => ?_) h
          obtain ⟨hlM2, h⟩ := hh
          exact h
        · replace h := h.2
          intro g
          replace h := h g
          refine ⟨rfl, ?_⟩
          refine q_WP_mono _ _ _ _ _ _ (fun v3 M4 hh => ?_) h
          obtain ⟨hlM4, h⟩ := hh
          exact h
      · replace h := h.2
        intro g
        replace h := h g
        refine ⟨rfl, ?_⟩
        refine ⟨⟨rfl, h.1⟩, ?_⟩
        replace h := h.2
        refine ⟨rfl, ?_⟩
        refine q_WP_mono _ _ _ _ _ _ (fun v5 M6 hh => ?_) h
        obtain ⟨hlM6, h⟩ := hh
        exact h
    · replace h := h.2
      intro g
      replace h := h g
      refine ⟨?_, ?_⟩
      · replace h := h.1
        intro g
        replace h := h g
        refine ⟨rfl, ?_⟩
        refine ⟨⟨rfl, h.1⟩, ?_⟩
        replace h := h.2
        refine ⟨rfl, ?_⟩
        refine p_188 hl h.1 ?_
        replace h := h.2
        rw [lk66 hl]
        refine ⟨rfl, ?_⟩
        refine q_WP_mono _ _ _ _ _ _ (fun v9 M10 hh => ?_) h
        obtain ⟨hlM10, h⟩ := hh
        exact h
      · replace h := h.2
        intro g
        replace h := h g
        refine ⟨rfl, ?_⟩
        refine ⟨⟨rfl, h.1⟩, ?_⟩
        replace h := h.2
        refine ⟨rfl, ?_⟩
        refine p_188 hl h.1 ?_
        replace h := h.2
        rw [lk66 hl]
        refine ⟨rfl, ?_⟩
        refine q_WP_mono _ _ _ _ _ _ (fun v13 M14 hh => ?_) h
        obtain ⟨hlM14, h⟩ := hh
        exact h
  · replace h := h.2
    intro g
    replace h := h g
    refine ⟨?_, ?_⟩
    · replace h := h.1
      intro g
      replace h := h g
      refine ⟨rfl, ?_⟩
      refine ⟨⟨rfl, h.1⟩, ?_⟩
      replace h := h.2
      refine ⟨rfl, ?_⟩
      refine p_188 hl h.1 ?_
      replace h := h.2
      rw [lk66 hl]
      refine ⟨rfl, ?_⟩
      refine q_WP_mono _ _ _ _ _ _ (fun v17 M18 hh => ?_) h
      obtain ⟨hlM18, h⟩ := hh
      exact h
    · replace h := h.2
      intro g
      replace h := h g
      refine ⟨rfl, ?_⟩
      refine ⟨⟨rfl, h.1⟩, ?_⟩
      replace h := h.2
      refine ⟨rfl, ?_⟩
      refine p_188 hl h.1 ?_
      replace h := h.2
      rw [lk66 hl]
      refine ⟨rfl, ?_⟩
      refine q_WP_mono _ _ _ _ _ _ (fun v21 M22 hh => ?_) h
      obtain ⟨hlM22, h⟩ := hh
      exact h
theorem t_196_207 {d : Nat} {P : Int → qM → Prop} {M : qM} {c s : Nat} (hl : q_lay M) (h : (P (0 : Int) M)) : q_At q_m196 (q_WP q_Pr d) P 207 [] [] M c s := by
  refine s_196_207 ?_
  exact h
theorem t_197_0 {d : Nat} {P : Int → qM → Prop} {x1 : Int} {M : qM} {c s : Nat} (hl : q_lay M) (h : ((0 ≤ x1 ∧ x1 < 30) ∧ (((q_nm M 66 65) ≤ (q_nm M 93 x1) → (q_At q_m197 (q_WP q_Pr d) P 32 [(0, .inr (.inr 66)), (1, .inl x1), (2, .inl (0 : Int)), (3, .inl (q_nm M 66 65)), (4, .inl (0 : Int))] [] M c s)) ∧ ((q_nm M 93 x1) < (q_nm M 66 65) → ((0 ≤ x1 ∧ x1 < 30) ∧ (q_At q_m197 (q_WP q_Pr d) P 32 [(0, .inr (.inr 66)), (1, .inl x1), (2, .inl (0 : Int)), (3, .inl (q_nm M 93 x1)), (4, .inl (0 : Int))] [] M c s)))))) : q_At q_m197 (q_WP q_Pr d) P 0 [(0, .inr (.inr 66)), (1, .inl x1)] [] M c s := by
  refine s_197_0 ?_
  rw [lk66 hl, lr66_35 hl, ll93 hl, lk93 hl]
  refine ⟨rfl, ?_⟩
  refine ⟨⟨rfl, h.1⟩, ?_⟩
  replace h := h.2
  refine ⟨rfl, ?_⟩
  refine ⟨?_, ?_⟩
  · replace h := h.1
    intro g
    replace h := h g
    refine ⟨rfl, ?_⟩
    exact h
  · replace h := h.2
    intro g
    replace h := h g
    refine ⟨rfl, ?_⟩
    refine ⟨⟨rfl, h.1⟩, ?_⟩
    replace h := h.2
    exact h
theorem t_197_32 {d : Nat} {P : Int → qM → Prop} {x1 x2 x3 x4 : Int} {M : qM} {c s : Nat} (hl : q_lay M) (h : ((x3 ≤ x4 → ((0 ≤ x1 ∧ x1 < 30) ∧ (P (w32 ((w32 ((w32 ((w32 (x2 + (q_nm M 93 x1))) - x3)) + (q_nm M 66 65))) - x3)) M))) ∧ (x4 < x3 → ((0 ≤ (w32 ((w32 ((8 : Int) * x1)) + x4)) ∧ (w32 ((w32 ((8 : Int) * x1)) + x4)) < 240) ∧ ((0 ≤ x4 ∧ x4 < 16) ∧ (((q_nm M 92 (w32 ((w32 ((8 : Int) * x1)) + x4))) = (q_nm M 116 x4) → (q_At q_m197 (q_WP q_Pr d) P 32 [(0, .inr (.inr 66)), (1, .inl x1), (2, .inl x2), (3, .inl x3), (4, .inl (w32 (x4 + 1)))] [] M c s)) ∧ (¬ (q_nm M 92 (w32 ((w32 ((8 : Int) * x1)) + x4))) = (q_nm M 116 x4) → (q_At q_m197 (q_WP q_Pr d) P 32 [(0, .inr (.inr 66)), (1, .inl x1), (2, .inl (w32 (x2 + 1))), (3, .inl x3), (4, .inl (w32 (x4 + 1)))] [] M c s)))))))) : q_At q_m197 (q_WP q_Pr d) P 32 [(0, .inr (.inr 66)), (1, .inl x1), (2, .inl x2), (3, .inl x3), (4, .inl x4)] [] M c s := by
  refine s_197_32 ?_
  rw [lk66 hl, lr66_35 hl, ll93 hl, lk93 hl, lr66_34 hl, ll92 hl, lk92 hl, lr66_66 hl, ll116 hl, lk116 hl]
  refine ⟨?_, ?_⟩
  · replace h := h.1
    intro g
    replace h := h g
    refine ⟨rfl, ?_⟩
    refine ⟨⟨rfl, h.1⟩, ?_⟩
    replace h := h.2
    refine ⟨rfl, ?_⟩
    exact h
  · replace h := h.2
    intro g
    replace h := h g
    refine ⟨rfl, ?_⟩
    refine ⟨⟨rfl, h.1⟩, ?_⟩
    replace h := h.2
    refine ⟨rfl, ?_⟩
    refine ⟨⟨rfl, h.1⟩, ?_⟩
    replace h := h.2
    refine ⟨?_, ?_⟩
    · replace h := h.1
      intro g
      replace h := h g
      exact h
    · replace h := h.2
      intro g
      replace h := h g
      exact h
theorem t_198_0 {d : Nat} {P : Int → qM → Prop} {x1 x2 x3 x4 : Int} {M : qM} {c s : Nat} (hl : q_lay M) (h : ((0 ≤ (q_nm M 66 55) ∧ (q_nm M 66 55) < 640) ∧ (∀ M1 : qM, M1 = q_wn M 108 (q_nm M 66 55) x1 → q_lay M1 → ((0 ≤ (q_nm M 66 55) ∧ (q_nm M 66 55) < 640) ∧ (∀ M2 : qM, M2 = q_wn M1 109 (q_nm M 66 55) x2 → q_lay M2 → ((0 ≤ (q_nm M 66 55) ∧ (q_nm M 66 55) < 640) ∧ (∀ M3 : qM, M3 = q_wn M2 110 (q_nm M 66 55) x3 → q_lay M3 → ((x1 ≤ 0 → ((0 ≤ (q_nm M 66 55) ∧ (q_nm M 66 55) < 640) ∧ (∀ M4 : qM, M4 = q_wn M3 113 (q_nm M 66 55) (0 : Int) → q_lay M4 → ((0 ≤ (q_nm M 66 55) ∧ (q_nm M 66 55) < 640) ∧ (∀ M5 : qM, M5 = q_wn M4 114 (q_nm M 66 55) (0 : Int) → q_lay M5 → ((0 ≤ (q_nm M 66 55) ∧ (q_nm M 66 55) < 640) ∧ (∀ M6 : qM, M6 = q_wn M5 115 (q_nm M 66 55) (1 : Int) → q_lay M6 → (q_At q_m198 (q_WP q_Pr d) P 86 [(0, .inr (.inr 66)), (1, .inl x1), (2, .inl x2), (3, .inl x3), (4, .inl x4), (5, .inl (q_nm M 66 55)), (6, .inl (0 : Int)), (7, .inl (0 : Int))] [] M6 c s)))))))) ∧ (0 < x1 → (((5 : Int) ≤ x1 → ((0 ≤ (q_nm M 66 55) ∧ (q_nm M 66 55) < 640) ∧ (∀ M7 : qM, M7 = q_wn M3 113 (q_nm M 66 55) (0 : Int) → q_lay M7 → ((0 ≤ (q_nm M 66 55) ∧ (q_nm M 66 55) < 640) ∧ (∀ M8 : qM, M8 = q_wn M7 114 (q_nm M 66 55) (0 : Int) → q_lay M8 → ((0 ≤ (q_nm M 66 55) ∧ (q_nm M 66 55) < 640) ∧ (∀ M9 : qM, M9 = q_wn M8 115 (q_nm M 66 55) (1 : Int) → q_lay M9 → (q_At q_m198 (q_WP q_Pr d) P 86 [(0, .inr (.inr 66)), (1, .inl x1), (2, .inl x2), (3, .inl x3), (4, .inl x4), (5, .inl (q_nm M 66 55)), (6, .inl (0 : Int)), (7, .inl (0 : Int))] [] M9 c s)))))))) ∧ (x1 < (5 : Int) → ((x3 ≤ x2 → ((0 ≤ (q_nm M 66 55) ∧ (q_nm M 66 55) < 640) ∧ (∀ M10 : qM, M10 = q_wn M3 113 (q_nm M 66 55) (w32 (x2 - x3)) → q_lay M10 → ((0 ≤ (q_nm M 66 55) ∧ (q_nm M 66 55) < 640) ∧ (∀ M11 : qM, M11 = q_wn M10 114 (q_nm M 66 55) (0 : Int) → q_lay M11 → ((0 ≤ (q_nm M 66 55) ∧ (q_nm M 66 55) < 640) ∧ (∀ M12 : qM, M12 = q_wn M11 115 (q_nm M 66 55) (1 : Int) → q_lay M12 → (q_At q_m198 (q_WP q_Pr d) P 86 [(0, .inr (.inr 66)), (1, .inl x1), (2, .inl x2), (3, .inl x3), (4, .inl x4), (5, .inl (q_nm M 66 55)), (6, .inl (0 : Int)), (7, .inl (0 : Int))] [] M12 c s)))))))) ∧ (x2 < x3 → ((0 ≤ (q_nm M 66 55) ∧ (q_nm M 66 55) < 640) ∧ (∀ M13 : qM, M13 = q_wn M3 113 (q_nm M 66 55) (w32 (x3 - x2)) → q_lay M13 → ((0 ≤ (q_nm M 66 55) ∧ (q_nm M 66 55) < 640) ∧ (∀ M14 : qM, M14 = q_wn M13 114 (q_nm M 66 55) (0 : Int) → q_lay M14 → ((0 ≤ (q_nm M 66 55) ∧ (q_nm M 66 55) < 640) ∧ (∀ M15 : qM, M15 = q_wn M14 115 (q_nm M 66 55) (1 : Int) → q_lay M15 → (q_At q_m198 (q_WP q_Pr d) P 86 [(0, .inr (.inr 66)), (1, .inl x1), (2, .inl x2), (3, .inl x3), (4, .inl x4), (5, .inl (q_nm M 66 55)), (6, .inl (0 : Int)), (7, .inl (0 : Int))] [] M15 c s)))))))))))))))))))) : q_At q_m198 (q_WP q_Pr d) P 0 [(0, .inr (.inr 66)), (1, .inl x1), (2, .inl x2), (3, .inl x3), (4, .inl x4)] [] M c s := by
  refine s_198_0 ?_
  rw [lk66 hl, lr66_57 hl, ll108 hl, lk108 hl]
  refine ⟨rfl, ?_⟩
  refine ⟨rfl, ?_⟩
  refine ⟨⟨⟨by decide, rfl⟩, h.1⟩, ?_⟩
  replace h := h.2
  intro M1
  have hlM1 : q_lay M1 := q_lay_wn hl
  replace h := h M1 rfl hlM1
  rw [lk66 hlM1, lr66_58 hlM1, ll109 hlM1, lk109 hlM1]
  refine ⟨rfl, ?_⟩
  refine ⟨⟨⟨by decide, rfl⟩, h.1⟩, ?_⟩
  replace h := h.2
  intro M2
  have hlM2 : q_lay M2 := q_lay_wn hlM1
  replace h := h M2 rfl hlM2
  rw [lk66 hlM2, lr66_59 hlM2, ll110 hlM2, lk110 hlM2]
  refine ⟨rfl, ?_⟩
  refine ⟨⟨⟨by decide, rfl⟩, h.1⟩, ?_⟩
  replace h := h.2
  intro M3
  have hlM3 : q_lay M3 := q_lay_wn hlM2
  replace h := h M3 rfl hlM3
  rw [lk66 hlM3, lr66_62 hlM3, ll113 hlM3, lk113 hlM3]
  refine ⟨rfl, ?_⟩
  refine ⟨?_, ?_⟩
  · replace h := h.1
    intro g
    replace h := h g
    refine ⟨⟨⟨by decide, rfl⟩, h.1⟩, ?_⟩
    replace h := h.2
    intro M4
    have hlM4 : q_lay M4 := q_lay_wn hlM3
    replace h := h M4 rfl hlM4
    rw [lk66 hlM4, lr66_63 hlM4, ll114 hlM4, lk114 hlM4]
    refine ⟨rfl, ?_⟩
    refine ⟨⟨⟨by decide, rfl⟩, h.1⟩, ?_⟩
    replace h := h.2
    intro M5
    have hlM5 : q_lay M5 := q_lay_wn hlM4
    replace h := h M5 rfl hlM5
    rw [lk66 hlM5, lr66_64 hlM5, ll115 hlM5, lk115 hlM5, q_bs16_1]
    refine ⟨rfl, ?_⟩
    refine ⟨⟨Or.inr rfl, h.1⟩, ?_⟩
    replace h := h.2
    intro M6
    have hlM6 : q_lay M6 := q_lay_wn hlM5
    replace h := h M6 rfl hlM6
    exact h
  · replace h := h.2
    intro g
    replace h := h g
    refine ⟨?_, ?_⟩
    · replace h := h.1
      intro g
      replace h := h g
      refine ⟨⟨⟨by decide, rfl⟩, h.1⟩, ?_⟩
      replace h := h.2
      intro M7
      have hlM7 : q_lay M7 := q_lay_wn hlM3
      replace h := h M7 rfl hlM7
      rw [lk66 hlM7, lr66_63 hlM7, ll114 hlM7, lk114 hlM7]
      refine ⟨rfl, ?_⟩
      refine ⟨⟨⟨by decide, rfl⟩, h.1⟩, ?_⟩
      replace h := h.2
      intro M8
      have hlM8 : q_lay M8 := q_lay_wn hlM7
      replace h := h M8 rfl hlM8
      rw [lk66 hlM8, lr66_64 hlM8, ll115 hlM8, lk115 hlM8, q_bs16_1]
      refine ⟨rfl, ?_⟩
      refine ⟨⟨Or.inr rfl, h.1⟩, ?_⟩
      replace h := h.2
      intro M9
      have hlM9 : q_lay M9 := q_lay_wn hlM8
      replace h := h M9 rfl hlM9
      exact h
    · replace h := h.2
      intro g
      replace h := h g
      refine ⟨?_, ?_⟩
      · replace h := h.1
        intro g
        replace h := h g
        refine ⟨⟨⟨by decide, rfl⟩, h.1⟩, ?_⟩
        replace h := h.2
        intro M10
        have hlM10 : q_lay M10 := q_lay_wn hlM3
        replace h := h M10 rfl hlM10
        rw [lk66 hlM10, lr66_63 hlM10, ll114 hlM10, lk114 hlM10]
        refine ⟨rfl, ?_⟩
        refine ⟨⟨⟨by decide, rfl⟩, h.1⟩, ?_⟩
        replace h := h.2
        intro M11
        have hlM11 : q_lay M11 := q_lay_wn hlM10
        replace h := h M11 rfl hlM11
        rw [lk66 hlM11, lr66_64 hlM11, ll115 hlM11, lk115 hlM11, q_bs16_1]
        refine ⟨rfl, ?_⟩
        refine ⟨⟨Or.inr rfl, h.1⟩, ?_⟩
        replace h := h.2
        intro M12
        have hlM12 : q_lay M12 := q_lay_wn hlM11
        replace h := h M12 rfl hlM12
        exact h
      · replace h := h.2
        intro g
        replace h := h g
        refine ⟨⟨⟨by decide, rfl⟩, h.1⟩, ?_⟩
        replace h := h.2
        intro M13
        have hlM13 : q_lay M13 := q_lay_wn hlM3
        replace h := h M13 rfl hlM13
        rw [lk66 hlM13, lr66_63 hlM13, ll114 hlM13, lk114 hlM13]
        refine ⟨rfl, ?_⟩
        refine ⟨⟨⟨by decide, rfl⟩, h.1⟩, ?_⟩
        replace h := h.2
        intro M14
        have hlM14 : q_lay M14 := q_lay_wn hlM13
        replace h := h M14 rfl hlM14
        rw [lk66 hlM14, lr66_64 hlM14, ll115 hlM14, lk115 hlM14, q_bs16_1]
        refine ⟨rfl, ?_⟩
        refine ⟨⟨Or.inr rfl, h.1⟩, ?_⟩
        replace h := h.2
        intro M15
        have hlM15 : q_lay M15 := q_lay_wn hlM14
        replace h := h M15 rfl hlM15
        exact h
theorem t_198_86 {d : Nat} {P : Int → qM → Prop} {x1 x2 x3 x4 x5 x6 x7 : Int} {M : qM} {c s : Nat} (hl : q_lay M) (h : ((0 ≤ x4 ∧ x4 < 12) ∧ (((q_nm M 98 x4) ≤ x7 → ((0 ≤ x5 ∧ x5 < 640) ∧ (∀ M1 : qM, M1 = q_wn M 112 x5 x6 → q_lay M1 → (∀ M2 : qM, M2 = q_wn M1 66 55 (w32 ((q_nm M1 66 55) + (1 : Int))) → q_lay M2 → (P (0 : Int) M2))))) ∧ (x7 < (q_nm M 98 x4) → ((x7 ≤ 0 → q_WP q_Pr (d + 1) 196 [.inr (.inr 66), .inl x5, .inl x4, .inl x7] M (fun v3 M4 => q_lay M4 ∧ ((¬ x7 = x2 → (q_At q_m198 (q_WP q_Pr (d + 1)) P 156 [(0, .inr (.inr 66)), (1, .inl x1), (2, .inl x2), (3, .inl x3), (4, .inl x4), (5, .inl x5), (6, .inl x6), (7, .inl x7)] [] M4 c s)) ∧ (x7 = x2 → (((0 ≤ x4 ∧ x4 < 12) ∧ 0 ≤ x7 ∧ x7 < 6) ∧ q_WP q_Pr (d + 1) 197 [.inr (.inr 66), .inl (q_nm M4 99 (6 * x4 + x7))] M4 (fun v7 M8 => q_lay M8 ∧ ((0 ≤ x5 ∧ x5 < 640) ∧ (∀ M9 : qM, M9 = q_wn M8 114 x5 v7 → q_lay M9 → (q_At q_m198 (q_WP q_Pr (d + 1)) P 156 [(0, .inr (.inr 66)), (1, .inl x1), (2, .inl x2), (3, .inl x3), (4, .inl x4), (5, .inl x5), (6, .inl x6), (7, .inl x7)] [] M9 c s))))))))) ∧ (0 < x7 → ((0 ≤ (w32 ((w32 ((104 : Int) * x5)) + x6)) ∧ (w32 ((w32 ((104 : Int) * x5)) + x6)) < 66560) ∧ (∀ M10 : qM, M10 = q_wn M 111 (w32 ((w32 ((104 : Int) * x5)) + x6)) (32 : Int) → q_lay M10 → q_WP q_Pr (d + 1) 196 [.inr (.inr 66), .inl x5, .inl x4, .inl x7] M10 (fun v11 M12 => q_lay M12 ∧ ((¬ x7 = x2 → (q_At q_m198 (q_WP q_Pr (d + 1)) P 156 [(0, .inr (.inr 66)), (1, .inl x1), (2, .inl x2), (3, .inl x3), (4, .inl x4), (5, .inl x5), (6, .inl (w32 (x6 + 1))), (7, .inl x7)] [] M12 c s)) ∧ (x7 = x2 → (((0 ≤ x4 ∧ x4 < 12) ∧ 0 ≤ x7 ∧ x7 < 6) ∧ q_WP q_Pr (d + 1) 197 [.inr (.inr 66), .inl (q_nm M12 99 (6 * x4 + x7))] M12 (fun v15 M16 => q_lay M16 ∧ ((0 ≤ x5 ∧ x5 < 640) ∧ (∀ M17 : qM, M17 = q_wn M16 114 x5 v15 → q_lay M17 → (q_At q_m198 (q_WP q_Pr (d + 1)) P 156 [(0, .inr (.inr 66)), (1, .inl x1), (2, .inl x2), (3, .inl x3), (4, .inl x4), (5, .inl x5), (6, .inl (w32 (x6 + 1))), (7, .inl x7)] [] M17 c s)))))))))))))))) : q_At q_m198 (q_WP q_Pr (d + 1)) P 86 [(0, .inr (.inr 66)), (1, .inl x1), (2, .inl x2), (3, .inl x3), (4, .inl x4), (5, .inl x5), (6, .inl x6), (7, .inl x7)] [] M c s := by
  refine s_198_86 ?_
  rw [lk66 hl, lr66_41 hl, ll98 hl, lk98 hl, lr66_61 hl, ll112 hl, lk112 hl, lr66_60 hl, ll111 hl, lk111 hl]
  refine ⟨rfl, ?_⟩
  refine ⟨⟨rfl, h.1⟩, ?_⟩
  replace h := h.2
  refine ⟨?_, ?_⟩
  · replace h := h.1
    intro g
    replace h := h g
    refine ⟨rfl, ?_⟩
    refine ⟨⟨⟨by decide, rfl⟩, h.1⟩, ?_⟩
    replace h := h.2
    intro M1
    have hlM1 : q_lay M1 := q_lay_wn hl
    replace h := h M1 rfl hlM1
    rw [lk66 hlM1]
    refine ⟨rfl, ?_⟩
    refine ⟨rfl, ?_⟩
    intro M2
    have hlM2 : q_lay M2 := q_lay_wn hlM1
    replace h := h M2 rfl hlM2
    exact h
  · replace h := h.2
    intro g
    replace h := h g
    refine ⟨?_, ?_⟩
    · replace h := h.1
      intro g
      replace h := h g
      refine ⟨rfl, ?_⟩
      refine q_WP_mono _ _ _ _ _ _ (fun v3 M4 hh => ?_) h
      obtain ⟨hlM4, h⟩ := hh
      rw [lk66 hlM4, lr66_63 hlM4]
      refine ⟨?_, ?_⟩
      · replace h := h.1
        intro g
        replace h := h g
        exact h
      · replace h := h.2
        intro g
        replace h := h g
        refine ⟨rfl, ?_⟩
        refine ⟨rfl, ?_⟩
        refine p_188 hlM4 h.1 ?_
        replace h := h.2
        rw [lk66 hlM4]
        refine ⟨rfl, ?_⟩
        refine q_WP_mono _ _ _ _ _ _ (fun v7 M8 hh => ?_) h
        obtain ⟨hlM8, h⟩ := hh
        rw [ll114 hlM8, lk114 hlM8]
        refine ⟨⟨⟨by decide, rfl⟩, h.1⟩, ?_⟩
        replace h := h.2
        intro M9
        have hlM9 : q_lay M9 := q_lay_wn hlM8
        replace h := h M9 rfl hlM9
        exact h
    · replace h := h.2
      intro g
      replace h := h g
      refine ⟨rfl, ?_⟩
      refine ⟨⟨⟨by decide, rfl⟩, h.1⟩, ?_⟩
      replace h := h.2
      intro M10
      have hlM10 : q_lay M10 := q_lay_wn hl
      replace h := h M10 rfl hlM10
      rw [lk66 hlM10]
      refine ⟨rfl, ?_⟩
      refine q_WP_mono _ _ _ _ _ _ (fun v11 M12 hh => ?_) h
      obtain ⟨hlM12, h⟩ := hh
      rw [lk66 hlM12, lr66_63 hlM12]
      refine ⟨?_, ?_⟩
      · replace h := h.1
        intro g
        replace h := h g
        exact h
      · replace h := h.2
        intro g
        replace h := h g
        refine ⟨rfl, ?_⟩
        refine ⟨rfl, ?_⟩
        refine p_188 hlM12 h.1 ?_
        replace h := h.2
        rw [lk66 hlM12]
        refine ⟨rfl, ?_⟩
        refine q_WP_mono _ _ _ _ _ _ (fun v15 M16 hh => ?_) h
        obtain ⟨hlM16, h⟩ := hh
        rw [ll114 hlM16, lk114 hlM16]
        refine ⟨⟨⟨by decide, rfl⟩, h.1⟩, ?_⟩
        replace h := h.2
        intro M17
        have hlM17 : q_lay M17 := q_lay_wn hlM16
        replace h := h M17 rfl hlM17
        exact h
theorem t_198_156 {d : Nat} {P : Int → qM → Prop} {x1 x2 x3 x4 x5 x6 x7 : Int} {M : qM} {c s : Nat} (hl : q_lay M) (h : ((x7 = x2 → (q_At q_m198 (q_WP q_Pr d) P 178 [(0, .inr (.inr 66)), (1, .inl x1), (2, .inl x2), (3, .inl x3), (4, .inl x4), (5, .inl x5), (6, .inl x6), (7, .inl x7)] [] M c s)) ∧ (¬ x7 = x2 → ((¬ x7 = x3 → (q_At q_m198 (q_WP q_Pr d) P 208 [(0, .inr (.inr 66)), (1, .inl x1), (2, .inl x2), (3, .inl x3), (4, .inl x4), (5, .inl x5), (6, .inl x6), (7, .inl x7)] [] M c s)) ∧ (x7 = x3 → ((x1 = (3 : Int) → (q_At q_m198 (q_WP q_Pr d) P 178 [(0, .inr (.inr 66)), (1, .inl x1), (2, .inl x2), (3, .inl x3), (4, .inl x4), (5, .inl x5), (6, .inl x6), (7, .inl x7)] [] M c s)) ∧ (¬ x1 = (3 : Int) → ((¬ x1 = (4 : Int) → (q_At q_m198 (q_WP q_Pr d) P 208 [(0, .inr (.inr 66)), (1, .inl x1), (2, .inl x2), (3, .inl x3), (4, .inl x4), (5, .inl x5), (6, .inl x6), (7, .inl x7)] [] M c s)) ∧ (x1 = (4 : Int) → (q_At q_m198 (q_WP q_Pr d) P 178 [(0, .inr (.inr 66)), (1, .inl x1), (2, .inl x2), (3, .inl x3), (4, .inl x4), (5, .inl x5), (6, .inl x6), (7, .inl x7)] [] M c s)))))))))) : q_At q_m198 (q_WP q_Pr d) P 156 [(0, .inr (.inr 66)), (1, .inl x1), (2, .inl x2), (3, .inl x3), (4, .inl x4), (5, .inl x5), (6, .inl x6), (7, .inl x7)] [] M c s := by
  refine s_198_156 ?_
  refine ⟨?_, ?_⟩
  · replace h := h.1
    intro g
    replace h := h g
    exact h
  · replace h := h.2
    intro g
    replace h := h g
    refine ⟨?_, ?_⟩
    · replace h := h.1
      intro g
      replace h := h g
      exact h
    · replace h := h.2
      intro g
      replace h := h g
      refine ⟨?_, ?_⟩
      · replace h := h.1
        intro g
        replace h := h g
        exact h
      · replace h := h.2
        intro g
        replace h := h g
        refine ⟨?_, ?_⟩
        · replace h := h.1
          intro g
          replace h := h g
          exact h
        · replace h := h.2
          intro g
          replace h := h g
          exact h
theorem t_198_178 {d : Nat} {P : Int → qM → Prop} {x1 x2 x3 x4 x5 x6 x7 : Int} {M : qM} {c s : Nat} (hl : q_lay M) (h : ((0 ≤ x5 ∧ x5 < 640) ∧ (((q_nm M 115 x5) = 0 → (q_At q_m198 (q_WP q_Pr d) P 207 [(0, .inr (.inr 66)), (1, .inl x1), (2, .inl x2), (3, .inl x3), (4, .inl x4), (5, .inl x5), (6, .inl x6), (7, .inl x7)] [.inl (0 : Int), .inl x5, .inr (.inr 115)] M c s)) ∧ (¬ (q_nm M 115 x5) = 0 → q_WP q_Pr d 194 [.inr (.inr 66)] M (fun v1 M2 => q_lay M2 ∧ ((v1 = (-1 : Int) → (q_At q_m198 (q_WP q_Pr d) P 207 [(0, .inr (.inr 66)), (1, .inl x1), (2, .inl x2), (3, .inl x3), (4, .inl x4), (5, .inl x5), (6, .inl x6), (7, .inl x7)] [.inl (0 : Int), .inl x5, .inr (.inr 115)] M2 c s)) ∧ (¬ v1 = (-1 : Int) → (q_At q_m198 (q_WP q_Pr d) P 207 [(0, .inr (.inr 66)), (1, .inl x1), (2, .inl x2), (3, .inl x3), (4, .inl x4), (5, .inl x5), (6, .inl x6), (7, .inl x7)] [.inl (1 : Int), .inl x5, .inr (.inr 115)] M2 c s)))))))) : q_At q_m198 (q_WP q_Pr d) P 178 [(0, .inr (.inr 66)), (1, .inl x1), (2, .inl x2), (3, .inl x3), (4, .inl x4), (5, .inl x5), (6, .inl x6), (7, .inl x7)] [] M c s := by
  refine s_198_178 ?_
  rw [lk66 hl, lr66_64 hl, ll115 hl, lk115 hl]
  refine ⟨rfl, ?_⟩
  refine ⟨rfl, ?_⟩
  refine ⟨⟨Or.inr rfl, h.1⟩, ?_⟩
  replace h := h.2
  refine ⟨?_, ?_⟩
  · replace h := h.1
    intro g
    replace h := h g
    exact h
  · replace h := h.2
    intro g
    replace h := h g
    refine ⟨rfl, ?_⟩
    refine q_WP_mono _ _ _ _ _ _ (fun v1 M2 hh => ?_) h
    obtain ⟨hlM2, h⟩ := hh
    refine ⟨?_, ?_⟩
    · replace h := h.1
      intro g
      replace h := h g
      exact h
    · replace h := h.2
      intro g
      replace h := h g
      exact h
theorem t_198_207 {d : Nat} {P : Int → qM → Prop} {x1 x2 x3 x4 x5 x6 x7 y0 y1 y2 : Int} {M : qM} {c s : Nat} (hl : q_lay M) (h : (((q_kd M y2 = 12 ∨ q_kd M y2 = 16) ∧ 0 ≤ y1 ∧ y1 < q_ln M y2) ∧ (∀ M1 : qM, M1 = q_wn M y2 y1 (q_bs (q_kd M y2) y0) → q_lay M1 → (q_At q_m198 (q_WP q_Pr d) P 208 [(0, .inr (.inr 66)), (1, .inl x1), (2, .inl x2), (3, .inl x3), (4, .inl x4), (5, .inl x5), (6, .inl x6), (7, .inl x7)] [] M1 c s)))) : q_At q_m198 (q_WP q_Pr d) P 207 [(0, .inr (.inr 66)), (1, .inl x1), (2, .inl x2), (3, .inl x3), (4, .inl x4), (5, .inl x5), (6, .inl x6), (7, .inl x7)] [.inl y0, .inl y1, .inr (.inr y2)] M c s := by
  refine s_198_207 ?_
  refine ⟨h.1, ?_⟩
  replace h := h.2
  intro M1
  have hlM1 : q_lay M1 := q_lay_wn hl
  replace h := h M1 rfl hlM1
  exact h
theorem t_198_208 {d : Nat} {P : Int → qM → Prop} {x1 x2 x3 x4 x5 x6 x7 : Int} {M : qM} {c s : Nat} (hl : q_lay M) (h : (q_At q_m198 (q_WP q_Pr d) P 211 [(0, .inr (.inr 66)), (1, .inl x1), (2, .inl x2), (3, .inl x3), (4, .inl x4), (5, .inl x5), (6, .inl x6), (7, .inl x7), (8, .inl (0 : Int))] [] M c s)) : q_At q_m198 (q_WP q_Pr d) P 208 [(0, .inr (.inr 66)), (1, .inl x1), (2, .inl x2), (3, .inl x3), (4, .inl x4), (5, .inl x5), (6, .inl x6), (7, .inl x7)] [] M c s := by
  refine s_198_208 ?_
  exact h
theorem t_198_211 {d : Nat} {P : Int → qM → Prop} {x1 x2 x3 x4 x5 x6 x7 x8 : Int} {M : qM} {c s : Nat} (hl : q_lay M) (h : (((q_nm M 66 65) ≤ x8 → (q_At q_m198 (q_WP q_Pr d) P 86 [(0, .inr (.inr 66)), (1, .inl x1), (2, .inl x2), (3, .inl x3), (4, .inl x4), (5, .inl x5), (6, .inl (w32 (x6 + (q_nm M 66 65)))), (7, .inl (w32 (x7 + 1)))] [] M c s)) ∧ (x8 < (q_nm M 66 65) → ((0 ≤ x8 ∧ x8 < 16) ∧ ((0 ≤ (w32 ((w32 ((w32 ((104 : Int) * x5)) + x6)) + x8)) ∧ (w32 ((w32 ((w32 ((104 : Int) * x5)) + x6)) + x8)) < 66560) ∧ (∀ M1 : qM, M1 = q_wn M 111 (w32 ((w32 ((w32 ((104 : Int) * x5)) + x6)) + x8)) (q_nm M 116 x8) → q_lay M1 → (q_At q_m198 (q_WP q_Pr d) P 211 [(0, .inr (.inr 66)), (1, .inl x1), (2, .inl x2), (3, .inl x3), (4, .inl x4), (5, .inl x5), (6, .inl x6), (7, .inl x7), (8, .inl (w32 (x8 + 1)))] [] M1 c s))))))) : q_At q_m198 (q_WP q_Pr d) P 211 [(0, .inr (.inr 66)), (1, .inl x1), (2, .inl x2), (3, .inl x3), (4, .inl x4), (5, .inl x5), (6, .inl x6), (7, .inl x7), (8, .inl x8)] [] M c s := by
  refine s_198_211 ?_
  rw [lk66 hl, lr66_66 hl, ll116 hl, lk116 hl, lr66_60 hl, ll111 hl, lk111 hl]
  refine ⟨rfl, ?_⟩
  refine ⟨?_, ?_⟩
  · replace h := h.1
    intro g
    replace h := h g
    refine ⟨rfl, ?_⟩
    exact h
  · replace h := h.2
    intro g
    replace h := h g
    refine ⟨rfl, ?_⟩
    refine ⟨rfl, ?_⟩
    refine ⟨⟨rfl, h.1⟩, ?_⟩
    replace h := h.2
    refine ⟨⟨⟨by decide, rfl⟩, h.1⟩, ?_⟩
    replace h := h.2
    intro M1
    have hlM1 : q_lay M1 := q_lay_wn hl
    replace h := h M1 rfl hlM1
    exact h
theorem t_199_0 {d : Nat} {P : Int → qM → Prop} {x1 x2 x3 : Int} {M : qM} {c s : Nat} (hl : q_lay M) (h : ((x3 = x2 → (P (0 : Int) M)) ∧ (¬ x3 = x2 → ((0 ≤ x3 ∧ x3 < 30) ∧ ((0 ≤ x2 ∧ x2 < 30) ∧ (((q_nm M 95 x3) = (q_nm M 95 x2) → ((¬ x1 = (6 : Int) → ((0 ≤ x3 ∧ x3 < 30) ∧ ((0 ≤ x2 ∧ x2 < 30) ∧ (((q_nm M 96 x3) = (q_nm M 96 x2) → ((¬ x1 = (7 : Int) → q_WP q_Pr d 190 [.inr (.inr 66), .inl x2, .inl x3] M (fun v1 M2 => q_lay M2 ∧ (((q_nm M2 66 65) ≤ 0 → (P (0 : Int) M2)) ∧ (0 < (q_nm M2 66 65) → q_WP q_Pr d 193 [.inr (.inr 66), .inl x2] M2 (fun v3 M4 => q_lay M4 ∧ ((¬ v3 = 0 → (P (0 : Int) M4)) ∧ (v3 = 0 → (P (1 : Int) M4)))))))) ∧ (x1 = (7 : Int) → (P (1 : Int) M)))) ∧ (¬ (q_nm M 96 x3) = (q_nm M 96 x2) → (P (0 : Int) M)))))) ∧ (x1 = (6 : Int) → q_WP q_Pr d 195 [.inr (.inr 66), .inl x2, .inl x3] M (fun v5 M6 => q_lay M6 ∧ ((0 ≤ v5 ∧ v5 ≤ 1) ∧ (P v5 M6)))))) ∧ (¬ (q_nm M 95 x3) = (q_nm M 95 x2) → (P (0 : Int) M)))))))) : q_At q_m199 (q_WP q_Pr d) P 0 [(0, .inr (.inr 66)), (1, .inl x1), (2, .inl x2), (3, .inl x3)] [] M c s := by
  refine s_199_0 ?_
  rw [lk66 hl, lr66_37 hl, ll95 hl, lk95 hl, lr66_38 hl, ll96 hl, lk96 hl]
  refine ⟨?_, ?_⟩
  · replace h := h.1
    intro g
    replace h := h g
    refine ⟨⟨by decide, by decide⟩, ?_⟩
    exact h
  · replace h := h.2
    intro g
    replace h := h g
    refine ⟨rfl, ?_⟩
    refine ⟨⟨rfl, h.1⟩, ?_⟩
    replace h := h.2
    refine ⟨rfl, ?_⟩
    refine ⟨⟨rfl, h.1⟩, ?_⟩
    replace h := h.2
    refine ⟨?_, ?_⟩
    · replace h := h.1
      intro g
      replace h := h g
      refine ⟨?_, ?_⟩
      · replace h := h.1
        intro g
        replace h := h g
        refine ⟨rfl, ?_⟩
        refine ⟨⟨rfl, h.1⟩, ?_⟩
        replace h := h.2
        refine ⟨rfl, ?_⟩
        refine ⟨⟨rfl, h.1⟩, ?_⟩
        replace h := h.2
        refine ⟨?_, ?_⟩
        · replace h := h.1
          intro g
          replace h := h g
          refine ⟨?_, ?_⟩
          · replace h := h.1
            intro g
            replace h := h g
            refine ⟨rfl, ?_⟩
            refine q_WP_mono _ _ _ _ _ _ (fun v1 M2 hh => ?_) h
            obtain ⟨hlM2, h⟩ := hh
            rw [lk66 hlM2]
            refine ⟨rfl, ?_⟩
            refine ⟨?_, ?_⟩
            · replace h := h.1
              intro g
              replace h := h g
              refine ⟨⟨by decide, by decide⟩, ?_⟩
              exact h
            · replace h := h.2
              intro g
              replace h := h g
              refine ⟨rfl, ?_⟩
              refine q_WP_mono _ _ _ _ _ _ (fun v3 M4 hh => ?_) h
              obtain ⟨hlM4, h⟩ := hh
              refine ⟨?_, ?_⟩
              · replace h := h.1
                intro g
                replace h := h g
                refine ⟨⟨by decide, by decide⟩, ?_⟩
                exact h
              · replace h := h.2
                intro g
                replace h := h g
                refine ⟨⟨by decide, by decide⟩, ?_⟩
                exact h
          · replace h := h.2
            intro g
            replace h := h g
            refine ⟨⟨by decide, by decide⟩, ?_⟩
            exact h
        · replace h := h.2
          intro g
          replace h := h g
          refine ⟨⟨by decide, by decide⟩, ?_⟩
          exact h
      · replace h := h.2
        intro g
        replace h := h g
        refine ⟨rfl, ?_⟩
        refine q_WP_mono _ _ _ _ _ _ (fun v5 M6 hh => ?_) h
        obtain ⟨hlM6, h⟩ := hh
        refine ⟨h.1, ?_⟩
        replace h := h.2
        exact h
    · replace h := h.2
      intro g
      replace h := h g
      refine ⟨⟨by decide, by decide⟩, ?_⟩
      exact h
theorem t_200_0 {d : Nat} {P : Int → qM → Prop} {x1 x2 : Int} {M : qM} {c s : Nat} (hl : q_lay M) (h : ((0 ≤ x2 ∧ x2 < 12) ∧ (q_At q_m200 (q_WP q_Pr d) P 10 [(0, .inr (.inr 66)), (1, .inl x1), (2, .inl x2), (3, .inl (q_nm M 98 x2)), (4, .inl (0 : Int))] [] M c s))) : q_At q_m200 (q_WP q_Pr d) P 0 [(0, .inr (.inr 66)), (1, .inl x1), (2, .inl x2)] [] M c s := by
  refine s_200_0 ?_
  rw [lk66 hl, lr66_41 hl, ll98 hl, lk98 hl]
  refine ⟨rfl, ?_⟩
  refine ⟨⟨rfl, h.1⟩, ?_⟩
  replace h := h.2
  exact h
theorem t_200_10 {d : Nat} {P : Int → qM → Prop} {x1 x2 x3 x4 : Int} {M : qM} {c s : Nat} (hl : q_lay M) (h : ((x3 ≤ x4 → (P (0 : Int) M)) ∧ (x4 < x3 → (((0 ≤ x2 ∧ x2 < 12) ∧ 0 ≤ x4 ∧ x4 < 6) ∧ ((¬ x1 = (8 : Int) → ((x1 ≤ (4 : Int) → (q_At q_m200 (q_WP q_Pr (d + 1)) P 119 [(0, .inr (.inr 66)), (1, .inl x1), (2, .inl x2), (3, .inl x3), (4, .inl x4), (5, .inl (q_nm M 99 (6 * x2 + x4))), (6, .inl (0 : Int))] [] M c s)) ∧ ((4 : Int) < x1 → (q_At q_m200 (q_WP q_Pr (d + 1)) P 76 [(0, .inr (.inr 66)), (1, .inl x1), (2, .inl x2), (3, .inl x3), (4, .inl x4), (5, .inl (q_nm M 99 (6 * x2 + x4))), (6, .inl (0 : Int))] [] M c s)))) ∧ (x1 = (8 : Int) → ((0 ≤ (q_nm M 99 (6 * x2 + x4)) ∧ (q_nm M 99 (6 * x2 + x4)) < 30) ∧ ((0 ≤ (q_nm M 99 (6 * x2 + x4)) ∧ (q_nm M 99 (6 * x2 + x4)) < 30) ∧ (((1 : Int) ≤ (q_nm M 94 (q_nm M 99 (6 * x2 + x4))) ∧ (q_nm M 94 (q_nm M 99 (6 * x2 + x4))) ≤ (w32 ((q_nm M 93 (q_nm M 99 (6 * x2 + x4))) - (1 : Int))) → q_WP q_Pr (d + 1) 198 [.inr (.inr 66), .inl x1, .inl x4, .inl (-1 : Int), .inl x2] M (fun v5 M6 => q_lay M6 ∧ (q_At q_m200 (q_WP q_Pr (d + 1)) P 10 [(0, .inr (.inr 66)), (1, .inl x1), (2, .inl x2), (3, .inl x3), (4, .inl (w32 (x4 + 1)))] [] M6 c s))) ∧ (¬ ((1 : Int) ≤ (q_nm M 94 (q_nm M 99 (6 * x2 + x4))) ∧ (q_nm M 94 (q_nm M 99 (6 * x2 + x4))) ≤ (w32 ((q_nm M 93 (q_nm M 99 (6 * x2 + x4))) - (1 : Int)))) → (q_At q_m200 (q_WP q_Pr (d + 1)) P 10 [(0, .inr (.inr 66)), (1, .inl x1), (2, .inl x2), (3, .inl x3), (4, .inl (w32 (x4 + 1)))] [] M c s))))))))))) : q_At q_m200 (q_WP q_Pr (d + 1)) P 10 [(0, .inr (.inr 66)), (1, .inl x1), (2, .inl x2), (3, .inl x3), (4, .inl x4)] [] M c s := by
  refine s_200_10 ?_
  rw [lk66 hl]
  refine ⟨?_, ?_⟩
  · replace h := h.1
    intro g
    replace h := h g
    exact h
  · replace h := h.2
    intro g
    replace h := h g
    refine ⟨rfl, ?_⟩
    refine p_188 hl h.1 ?_
    replace h := h.2
    rw [lk66 hl, lr66_36 hl, ll94 hl, lk94 hl, lr66_35 hl, ll93 hl, lk93 hl]
    refine ⟨?_, ?_⟩
    · replace h := h.1
      intro g
      replace h := h g
      refine ⟨?_, ?_⟩
      · replace h := h.1
        intro g
        replace h := h g
        exact h
      · replace h := h.2
        intro g
        replace h := h g
        exact h
    · replace h := h.2
      intro g
      replace h := h g
      refine ⟨rfl, ?_⟩
      refine ⟨⟨rfl, h.1⟩, ?_⟩
      replace h := h.2
      refine ⟨rfl, ?_⟩
      refine ⟨⟨rfl, h.1⟩, ?_⟩
      replace h := h.2
      refine p_146 (fun g => ?_) (fun g => ?_)
      · replace h := h.1 g
        rw [lk66 hl]
        refine ⟨fun g => absurd g (by decide), fun _ => ?_⟩
        refine ⟨rfl, ?_⟩
        refine q_WP_mono _ _ _ _ _ _ (fun v5 M6 hh => ?_) h
        obtain ⟨hlM6, h⟩ := hh
        exact h
      · replace h := h.2 g
        rw [lk66 hl]
        refine ⟨fun _ => ?_, fun g => absurd g (by decide)⟩
        exact h
theorem t_200_76 {d : Nat} {P : Int → qM → Prop} {x1 x2 x3 x4 x5 x6 : Int} {M : qM} {c s : Nat} (hl : q_lay M) (h : (((q_nm M 66 33) ≤ x6 → (q_At q_m200 (q_WP q_Pr d) P 10 [(0, .inr (.inr 66)), (1, .inl x1), (2, .inl x2), (3, .inl x3), (4, .inl (w32 (x4 + 1)))] [] M c s)) ∧ (x6 < (q_nm M 66 33) → q_WP q_Pr d 199 [.inr (.inr 66), .inl x1, .inl x5, .inl x6] M (fun v1 M2 => q_lay M2 ∧ ((v1 = 0 → (q_At q_m200 (q_WP q_Pr d) P 76 [(0, .inr (.inr 66)), (1, .inl x1), (2, .inl x2), (3, .inl x3), (4, .inl x4), (5, .inl x5), (6, .inl (w32 (x6 + 1)))] [] M2 c s)) ∧ (¬ v1 = 0 → q_WP q_Pr d 198 [.inr (.inr 66), .inl x1, .inl x4, .inl x6, .inl x2] M2 (fun v3 M4 => q_lay M4 ∧ (q_At q_m200 (q_WP q_Pr d) P 76 [(0, .inr (.inr 66)), (1, .inl x1), (2, .inl x2), (3, .inl x3), (4, .inl x4), (5, .inl x5), (6, .inl (w32 (x6 + 1)))] [] M4 c s)))))))) : q_At q_m200 (q_WP q_Pr d) P 76 [(0, .inr (.inr 66)), (1, .inl x1), (2, .inl x2), (3, .inl x3), (4, .inl x4), (5, .inl x5), (6, .inl x6)] [] M c s := by
  refine s_200_76 ?_
  rw [lk66 hl]
  refine ⟨rfl, ?_⟩
  refine ⟨?_, ?_⟩
  · replace h := h.1
    intro g
    replace h := h g
    exact h
  · replace h := h.2
    intro g
    replace h := h g
    refine ⟨rfl, ?_⟩
    refine q_WP_mono _ _ _ _ _ _ (fun v1 M2 hh => ?_) h
    obtain ⟨hlM2, h⟩ := hh
    rw [lk66 hlM2]
    refine ⟨?_, ?_⟩
    · replace h := h.1
      intro g
      replace h := h g
      exact h
    · replace h := h.2
      intro g
      replace h := h g
      refine ⟨rfl, ?_⟩
      refine q_WP_mono _ _ _ _ _ _ (fun v3 M4 hh => ?_) h
      obtain ⟨hlM4, h⟩ := hh
      exact h
theorem t_200_119 {d : Nat} {P : Int → qM → Prop} {x1 x2 x3 x4 x5 x6 : Int} {M : qM} {c s : Nat} (hl : q_lay M) (h : ((x3 ≤ x6 → (q_At q_m200 (q_WP q_Pr d) P 10 [(0, .inr (.inr 66)), (1, .inl x1), (2, .inl x2), (3, .inl x3), (4, .inl (w32 (x4 + 1)))] [] M c s)) ∧ (x6 < x3 → ((¬ x1 = (2 : Int) → ((x6 ≤ x4 → (q_At q_m200 (q_WP q_Pr d) P 157 [(0, .inr (.inr 66)), (1, .inl x1), (2, .inl x2), (3, .inl x3), (4, .inl x4), (5, .inl x5), (6, .inl x6)] [.inl (0 : Int)] M c s)) ∧ (x4 < x6 → (q_At q_m200 (q_WP q_Pr d) P 157 [(0, .inr (.inr 66)), (1, .inl x1), (2, .inl x2), (3, .inl x3), (4, .inl x4), (5, .inl x5), (6, .inl x6)] [.inl (1 : Int)] M c s)))) ∧ (x1 = (2 : Int) → ((x4 ≤ x6 → (q_At q_m200 (q_WP q_Pr d) P 157 [(0, .inr (.inr 66)), (1, .inl x1), (2, .inl x2), (3, .inl x3), (4, .inl x4), (5, .inl x5), (6, .inl x6)] [.inl (0 : Int)] M c s)) ∧ (x6 < x4 → (q_At q_m200 (q_WP q_Pr d) P 157 [(0, .inr (.inr 66)), (1, .inl x1), (2, .inl x2), (3, .inl x3), (4, .inl x4), (5, .inl x5), (6, .inl x6)] [.inl (1 : Int)] M c s)))))))) : q_At q_m200 (q_WP q_Pr d) P 119 [(0, .inr (.inr 66)), (1, .inl x1), (2, .inl x2), (3, .inl x3), (4, .inl x4), (5, .inl x5), (6, .inl x6)] [] M c s := by
  refine s_200_119 ?_
  refine ⟨?_, ?_⟩
  · replace h := h.1
    intro g
    replace h := h g
    exact h
  · replace h := h.2
    intro g
    replace h := h g
    refine ⟨?_, ?_⟩
    · replace h := h.1
      intro g
      replace h := h g
      refine ⟨?_, ?_⟩
      · replace h := h.1
        intro g
        replace h := h g
        exact h
      · replace h := h.2
        intro g
        replace h := h g
        exact h
    · replace h := h.2
      intro g
      replace h := h g
      refine ⟨?_, ?_⟩
      · replace h := h.1
        intro g
        replace h := h g
        exact h
      · replace h := h.2
        intro g
        replace h := h g
        exact h
theorem t_200_157 {d : Nat} {P : Int → qM → Prop} {x1 x2 x3 x4 x5 x6 y0 : Int} {M : qM} {c s : Nat} (hl : q_lay M) (h : ((y0 = 0 → (q_At q_m200 (q_WP q_Pr (d + 1)) P 205 [(0, .inr (.inr 66)), (1, .inl x1), (2, .inl x2), (3, .inl x3), (4, .inl x4), (5, .inl x5), (6, .inl x6)] [.inl (0 : Int)] M c s)) ∧ (¬ y0 = 0 → ((¬ x1 = (4 : Int) → (((0 ≤ x2 ∧ x2 < 12) ∧ 0 ≤ x6 ∧ x6 < 6) ∧ q_WP q_Pr (d + 1) 189 [.inr (.inr 66), .inl x5, .inl (q_nm M 99 (6 * x2 + x6))] M (fun v3 M4 => q_lay M4 ∧ ((¬ v3 = 0 → (q_At q_m200 (q_WP q_Pr (d + 1)) P 205 [(0, .inr (.inr 66)), (1, .inl x1), (2, .inl x2), (3, .inl x3), (4, .inl x4), (5, .inl x5), (6, .inl x6)] [.inl (0 : Int)] M4 c s)) ∧ (v3 = 0 → (q_At q_m200 (q_WP q_Pr (d + 1)) P 205 [(0, .inr (.inr 66)), (1, .inl x1), (2, .inl x2), (3, .inl x3), (4, .inl x4), (5, .inl x5), (6, .inl x6)] [.inl (1 : Int)] M4 c s)))))) ∧ (x1 = (4 : Int) → (((0 ≤ x2 ∧ x2 < 12) ∧ 0 ≤ x6 ∧ x6 < 6) ∧ (((q_nm M 99 (6 * x2 + x6)) = x5 → (q_At q_m200 (q_WP q_Pr (d + 1)) P 205 [(0, .inr (.inr 66)), (1, .inl x1), (2, .inl x2), (3, .inl x3), (4, .inl x4), (5, .inl x5), (6, .inl x6)] [.inl (0 : Int)] M c s)) ∧ (¬ (q_nm M 99 (6 * x2 + x6)) = x5 → (q_At q_m200 (q_WP q_Pr (d + 1)) P 205 [(0, .inr (.inr 66)), (1, .inl x1), (2, .inl x2), (3, .inl x3), (4, .inl x4), (5, .inl x5), (6, .inl x6)] [.inl (1 : Int)] M c s))))))))) : q_At q_m200 (q_WP q_Pr (d + 1)) P 157 [(0, .inr (.inr 66)), (1, .inl x1), (2, .inl x2), (3, .inl x3), (4, .inl x4), (5, .inl x5), (6, .inl x6)] [.inl y0] M c s := by
  refine s_200_157 ?_
  rw [lk66 hl]
  refine ⟨?_, ?_⟩
  · replace h := h.1
    intro g
    replace h := h g
    exact h
  · replace h := h.2
    intro g
    replace h := h g
    refine ⟨?_, ?_⟩
    · replace h := h.1
      intro g
      replace h := h g
      refine ⟨rfl, ?_⟩
      refine p_188 hl h.1 ?_
      replace h := h.2
      rw [lk66 hl]
      refine ⟨rfl, ?_⟩
      refine q_WP_mono _ _ _ _ _ _ (fun v3 M4 hh => ?_) h
      obtain ⟨hlM4, h⟩ := hh
      refine ⟨?_, ?_⟩
      · replace h := h.1
        intro g
        replace h := h g
        exact h
      · replace h := h.2
        intro g
        replace h := h g
        exact h
    · replace h := h.2
      intro g
      replace h := h g
      refine ⟨rfl, ?_⟩
      refine p_188 hl h.1 ?_
      replace h := h.2
      refine ⟨?_, ?_⟩
      · replace h := h.1
        intro g
        replace h := h g
        exact h
      · replace h := h.2
        intro g
        replace h := h g
        exact h
theorem t_200_205 {d : Nat} {P : Int → qM → Prop} {x1 x2 x3 x4 x5 x6 y0 : Int} {M : qM} {c s : Nat} (hl : q_lay M) (h : ((y0 = 0 → (q_At q_m200 (q_WP q_Pr d) P 222 [(0, .inr (.inr 66)), (1, .inl x1), (2, .inl x2), (3, .inl x3), (4, .inl x4), (5, .inl x5), (6, .inl x6)] [] M c s)) ∧ (¬ y0 = 0 → q_WP q_Pr d 198 [.inr (.inr 66), .inl x1, .inl x4, .inl x6, .inl x2] M (fun v1 M2 => q_lay M2 ∧ (q_At q_m200 (q_WP q_Pr d) P 222 [(0, .inr (.inr 66)), (1, .inl x1), (2, .inl x2), (3, .inl x3), (4, .inl x4), (5, .inl x5), (6, .inl x6)] [] M2 c s))))) : q_At q_m200 (q_WP q_Pr d) P 205 [(0, .inr (.inr 66)), (1, .inl x1), (2, .inl x2), (3, .inl x3), (4, .inl x4), (5, .inl x5), (6, .inl x6)] [.inl y0] M c s := by
  refine s_200_205 ?_
  rw [lk66 hl]
  refine ⟨?_, ?_⟩
  · replace h := h.1
    intro g
    replace h := h g
    exact h
  · replace h := h.2
    intro g
    replace h := h g
    refine ⟨rfl, ?_⟩
    refine q_WP_mono _ _ _ _ _ _ (fun v1 M2 hh => ?_) h
    obtain ⟨hlM2, h⟩ := hh
    exact h
theorem t_200_222 {d : Nat} {P : Int → qM → Prop} {x1 x2 x3 x4 x5 x6 : Int} {M : qM} {c s : Nat} (hl : q_lay M) (h : (q_At q_m200 (q_WP q_Pr d) P 119 [(0, .inr (.inr 66)), (1, .inl x1), (2, .inl x2), (3, .inl x3), (4, .inl x4), (5, .inl x5), (6, .inl (w32 (x6 + 1)))] [] M c s)) : q_At q_m200 (q_WP q_Pr d) P 222 [(0, .inr (.inr 66)), (1, .inl x1), (2, .inl x2), (3, .inl x3), (4, .inl x4), (5, .inl x5), (6, .inl x6)] [] M c s := by
  refine s_200_222 ?_
  exact h
theorem t_201_0 {d : Nat} {P : Int → qM → Prop} {x1 : Int} {M : qM} {c s : Nat} (hl : q_lay M) (h : ((¬ (q_nm M 66 56) = x1 → (∀ M1 : qM, M1 = q_wn M 66 55 (0 : Int) → q_lay M1 → (∀ M2 : qM, M2 = q_wn M1 66 56 x1 → q_lay M2 → (∀ M3 : qM, M3 = q_wn M2 66 67 (q_nm M2 66 33) → q_lay M3 → q_WP q_Pr d 198 [.inr (.inr 66), .inl (0 : Int), .inl (-1 : Int), .inl (-1 : Int), .inl x1] M3 (fun v4 M5 => q_lay M5 ∧ (q_At q_m201 (q_WP q_Pr d) P 48 [(0, .inr (.inr 66)), (1, .inl x1), (2, .inl (1 : Int))] [] M5 c s)))))) ∧ ((q_nm M 66 56) = x1 → ((¬ (q_nm M 66 67) = (q_nm M 66 33) → (∀ M6 : qM, M6 = q_wn M 66 55 (0 : Int) → q_lay M6 → (∀ M7 : qM, M7 = q_wn M6 66 56 x1 → q_lay M7 → (∀ M8 : qM, M8 = q_wn M7 66 67 (q_nm M7 66 33) → q_lay M8 → q_WP q_Pr d 198 [.inr (.inr 66), .inl (0 : Int), .inl (-1 : Int), .inl (-1 : Int), .inl x1] M8 (fun v9 M10 => q_lay M10 ∧ (q_At q_m201 (q_WP q_Pr d) P 48 [(0, .inr (.inr 66)), (1, .inl x1), (2, .inl (1 : Int))] [] M10 c s)))))) ∧ ((q_nm M 66 67) = (q_nm M 66 33) → (P (0 : Int) M)))))) : q_At q_m201 (q_WP q_Pr d) P 0 [(0, .inr (.inr 66)), (1, .inl x1)] [] M c s := by
  refine s_201_0 ?_
  rw [lk66 hl]
  refine ⟨rfl, ?_⟩
  refine ⟨?_, ?_⟩
  · replace h := h.1
    intro g
    replace h := h g
    refine ⟨rfl, ?_⟩
    intro M1
    have hlM1 : q_lay M1 := q_lay_wn hl
    replace h := h M1 rfl hlM1
    rw [lk66 hlM1]
    refine ⟨rfl, ?_⟩
    intro M2
    have hlM2 : q_lay M2 := q_lay_wn hlM1
    replace h := h M2 rfl hlM2
    rw [lk66 hlM2]
    refine ⟨rfl, ?_⟩
    refine ⟨rfl, ?_⟩
    intro M3
    have hlM3 : q_lay M3 := q_lay_wn hlM2
    replace h := h M3 rfl hlM3
    rw [lk66 hlM3]
    refine ⟨rfl, ?_⟩
    refine q_WP_mono _ _ _ _ _ _ (fun v4 M5 hh => ?_) h
    obtain ⟨hlM5, h⟩ := hh
    exact h
  · replace h := h.2
    intro g
    replace h := h g
    refine ⟨rfl, ?_⟩
    refine ⟨rfl, ?_⟩
    refine ⟨?_, ?_⟩
    · replace h := h.1
      intro g
      replace h := h g
      refine ⟨rfl, ?_⟩
      intro M6
      have hlM6 : q_lay M6 := q_lay_wn hl
      replace h := h M6 rfl hlM6
      rw [lk66 hlM6]
      refine ⟨rfl, ?_⟩
      intro M7
      have hlM7 : q_lay M7 := q_lay_wn hlM6
      replace h := h M7 rfl hlM7
      rw [lk66 hlM7]
      refine ⟨rfl, ?_⟩
      refine ⟨rfl, ?_⟩
      intro M8
      have hlM8 : q_lay M8 := q_lay_wn hlM7
      replace h := h M8 rfl hlM8
      rw [lk66 hlM8]
      refine ⟨rfl, ?_⟩
      refine q_WP_mono _ _ _ _ _ _ (fun v9 M10 hh => ?_) h
      obtain ⟨hlM10, h⟩ := hh
      exact h
    · replace h := h.2
      intro g
      replace h := h g
      exact h
theorem t_201_48 {d : Nat} {P : Int → qM → Prop} {x1 x2 : Int} {M : qM} {c s : Nat} (hl : q_lay M) (h : (((9 : Int) ≤ x2 → (P (0 : Int) M)) ∧ (x2 < (9 : Int) → q_WP q_Pr d 200 [.inr (.inr 66), .inl x2, .inl x1] M (fun v1 M2 => q_lay M2 ∧ (q_At q_m201 (q_WP q_Pr d) P 48 [(0, .inr (.inr 66)), (1, .inl x1), (2, .inl (w32 (x2 + 1)))] [] M2 c s))))) : q_At q_m201 (q_WP q_Pr d) P 48 [(0, .inr (.inr 66)), (1, .inl x1), (2, .inl x2)] [] M c s := by
  refine s_201_48 ?_
  rw [lk66 hl]
  refine ⟨?_, ?_⟩
  · replace h := h.1
    intro g
    replace h := h g
    exact h
  · replace h := h.2
    intro g
    replace h := h g
    refine ⟨rfl, ?_⟩
    refine q_WP_mono _ _ _ _ _ _ (fun v1 M2 hh => ?_) h
    obtain ⟨hlM2, h⟩ := hh
    exact h
theorem t_202_0 {d : Nat} {P : Int → qM → Prop} {x1 x2 : Int} {M : qM} {c s : Nat} (hl : q_lay M) (h : ((0 ≤ q_nm M 66 40 ∧ q_nm M 66 40 ≤ 12) ∧ ((0 ≤ x1 ∧ x1 < q_nm M 66 40 → q_WP q_Pr (d + 2) 201 [.inr (.inr 66), .inl x1] M (fun v3 M4 => q_lay M4 ∧ (((0 : Int) ≤ x2 ∧ x2 ≤ (w32 ((q_nm M4 66 55) - (1 : Int))) → (P (1 : Int) M4)) ∧ (¬ ((0 : Int) ≤ x2 ∧ x2 ≤ (w32 ((q_nm M4 66 55) - (1 : Int)))) → (P (0 : Int) M4))))) ∧ (¬ (0 ≤ x1 ∧ x1 < q_nm M 66 40) → (P (0 : Int) M))))) : q_At q_m202 (q_WP q_Pr (d + 2)) P 0 [(0, .inr (.inr 66)), (1, .inl x1), (2, .inl x2)] [] M c s := by
  refine s_202_0 ?_
  rw [lk66 hl]
  refine ⟨rfl, ?_⟩
  refine p_164 hl h.1 (fun g => ?_) (fun g => ?_)
  · replace h := h.2.1 g
    rw [lk66 hl]
    refine ⟨fun _ => ?_, fun g => absurd g (by decide)⟩
    refine ⟨rfl, ?_⟩
    refine q_WP_mono _ _ _ _ _ _ (fun v3 M4 hh => ?_) h
    obtain ⟨hlM4, h⟩ := hh
    rw [lk66 hlM4]
    refine ⟨rfl, ?_⟩
    refine p_146 (fun g => ?_) (fun g => ?_)
    · replace h := h.1 g
      refine ⟨⟨by decide, by decide⟩, ?_⟩
      exact h
    · replace h := h.2 g
      refine ⟨⟨by decide, by decide⟩, ?_⟩
      exact h
  · replace h := h.2.2 g
    rw [lk66 hl]
    refine ⟨fun g => absurd g (by decide), fun _ => ?_⟩
    refine ⟨⟨by decide, by decide⟩, ?_⟩
    exact h
theorem t_203_0 {d : Nat} {P : Int → qM → Prop} {x1 : Int} {M : qM} {c s : Nat} (hl : q_lay M) (h : ((0 ≤ q_nm M 66 40 ∧ q_nm M 66 40 ≤ 12) ∧ ((0 ≤ x1 ∧ x1 < q_nm M 66 40 → q_WP q_Pr (d + 2) 201 [.inr (.inr 66), .inl x1] M (fun v3 M4 => q_lay M4 ∧ (P (q_nm M4 66 55) M4))) ∧ (¬ (0 ≤ x1 ∧ x1 < q_nm M 66 40) → (P (-1 : Int) M))))) : q_At q_m203 (q_WP q_Pr (d + 2)) P 0 [(0, .inr (.inr 66)), (1, .inl x1)] [] M c s := by
  refine s_203_0 ?_
  rw [lk66 hl]
  refine ⟨rfl, ?_⟩
  refine p_164 hl h.1 (fun g => ?_) (fun g => ?_)
  · replace h := h.2.1 g
    rw [lk66 hl]
    refine ⟨fun _ => ?_, fun g => absurd g (by decide)⟩
    refine ⟨rfl, ?_⟩
    refine q_WP_mono _ _ _ _ _ _ (fun v3 M4 hh => ?_) h
    obtain ⟨hlM4, h⟩ := hh
    rw [lk66 hlM4]
    refine ⟨rfl, ?_⟩
    exact h
  · replace h := h.2.2 g
    rw [lk66 hl]
    refine ⟨fun g => absurd g (by decide), fun _ => ?_⟩
    exact h
theorem t_204_0 {d : Nat} {P : Int → qM → Prop} {x1 x2 x3 : Int} {M : qM} {c s : Nat} (hl : q_lay M) (h : q_WP q_Pr d 202 [.inr (.inr 66), .inl x1, .inl x2] M (fun v1 M2 => q_lay M2 ∧ ((¬ v1 = 0 → (((x3 = 0 → ((0 ≤ x2 ∧ x2 < 640) ∧ (P (q_nm M2 108 x2) M2))) ∧ ((x3 = 1 → ((0 ≤ x2 ∧ x2 < 640) ∧ (P (q_nm M2 109 x2) M2))) ∧ ((x3 = 2 → ((0 ≤ x2 ∧ x2 < 640) ∧ (P (q_nm M2 110 x2) M2))) ∧ ((x3 = 3 → ((0 ≤ x2 ∧ x2 < 640) ∧ (((q_nm M2 115 x2) = 0 → (P (0 : Int) M2)) ∧ (¬ (q_nm M2 115 x2) = 0 → (P (1 : Int) M2))))) ∧ ((x3 = 4 → q_WP q_Pr d 214 [.inr (.inr 66), .inl x2] M2 (fun v3 M4 => q_lay M4 ∧ (P v3 M4))) ∧ ((x3 = 5 → ((0 ≤ x2 ∧ x2 < 640) ∧ (P (q_nm M2 114 x2) M2))) ∧ True)))))) ∧ ((x3 < 0 ∨ 5 < x3) → (P (-1 : Int) M2)))) ∧ (v1 = 0 → (P (-1 : Int) M2))))) : q_At q_m204 (q_WP q_Pr d) P 0 [(0, .inr (.inr 66)), (1, .inl x1), (2, .inl x2), (3, .inl x3)] [] M c s := by
  refine s_204_0 ?_
  rw [lk66 hl]
  refine ⟨rfl, ?_⟩
  refine q_WP_mono _ _ _ _ _ _ (fun v1 M2 hh => ?_) h
  obtain ⟨hlM2, h⟩ := hh
  rw [lk66 hlM2, lr66_57 hlM2, ll108 hlM2, lk108 hlM2, lr66_58 hlM2, ll109 hlM2, lk109 hlM2, lr66_59 hlM2, ll110 hlM2, lk110 hlM2, lr66_64 hlM2, ll115 hlM2, lk115 hlM2, lr66_63 hlM2, ll114 hlM2, lk114 hlM2]
  refine ⟨?_, ?_⟩
  · replace h := h.1
    intro g
    replace h := h g
    refine ⟨?_, ?_⟩
    · replace h := h.1
      refine ⟨?_, ?_⟩
      · replace h := h.1
        intro g
        replace h := h g
        refine ⟨rfl, ?_⟩
        refine ⟨⟨rfl, h.1⟩, ?_⟩
        replace h := h.2
        exact h
      · replace h := h.2
        refine ⟨?_, ?_⟩
        · replace h := h.1
          intro g
          replace h := h g
          refine ⟨rfl, ?_⟩
          refine ⟨⟨rfl, h.1⟩, ?_⟩
          replace h := h.2
          exact h
        · replace h := h.2
          refine ⟨?_, ?_⟩
          · replace h := h.1
            intro g
            replace h := h g
            refine ⟨rfl, ?_⟩
            refine ⟨⟨rfl, h.1⟩, ?_⟩
            replace h := h.2
            exact h
          · replace h := h.2
            refine ⟨?_, ?_⟩
            · replace h := h.1
              intro g
              replace h := h g
              refine ⟨rfl, ?_⟩
              refine ⟨⟨Or.inr rfl, h.1⟩, ?_⟩
              replace h := h.2
              refine ⟨?_, ?_⟩
              · replace h := h.1
                intro g
                replace h := h g
                exact h
              · replace h := h.2
                intro g
                replace h := h g
                exact h
            · replace h := h.2
              refine ⟨?_, ?_⟩
              · replace h := h.1
                intro g
                replace h := h g
                refine ⟨rfl, ?_⟩
                refine q_WP_mono _ _ _ _ _ _ (fun v3 M4 hh => ?_) h
                obtain ⟨hlM4, h⟩ := hh
                exact h
              · replace h := h.2
                refine ⟨?_, ?_⟩
                · replace h := h.1
                  intro g
                  replace h := h g
                  refine ⟨rfl, ?_⟩
                  refine ⟨⟨rfl, h.1⟩, ?_⟩
                  replace h := h.2
                  exact h
                · replace h := h.2
                  exact trivial
    · replace h := h.2
      intro g
      replace h := h g
      exact h
  · replace h := h.2
    intro g
    replace h := h g
    exact h
theorem t_205_0 {d : Nat} {P : Int → qM → Prop} {x1 x2 x3 : Int} {M : qM} {c s : Nat} (hl : q_lay M) (h : ((0 ≤ q_nm M 66 40 ∧ q_nm M 66 40 ≤ 12) ∧ ((0 ≤ x1 ∧ x1 < q_nm M 66 40 → ((0 ≤ x2 ∧ x2 ≤ 8 → q_WP q_Pr (d + 2) 201 [.inr (.inr 66), .inl x1] M (fun v5 M6 => q_lay M6 ∧ (q_At q_m205 (q_WP q_Pr (d + 2)) P 29 [(0, .inr (.inr 66)), (2, .inl x2), (3, .inl x3), (4, .inl (0 : Int)), (5, .inl (0 : Int))] [] M6 c s))) ∧ (¬ (0 ≤ x2 ∧ x2 ≤ 8) → (P (-1 : Int) M)))) ∧ (¬ (0 ≤ x1 ∧ x1 < q_nm M 66 40) → (P (-1 : Int) M))))) : q_At q_m205 (q_WP q_Pr (d + 2)) P 0 [(0, .inr (.inr 66)), (1, .inl x1), (2, .inl x2), (3, .inl x3)] [] M c s := by
  refine s_205_0 ?_
  rw [lk66 hl]
  refine ⟨rfl, ?_⟩
  refine p_164 hl h.1 (fun g => ?_) (fun g => ?_)
  · replace h := h.2.1 g
    rw [lk66 hl]
    refine ⟨fun g => absurd g (by decide), fun _ => ?_⟩
    refine ⟨rfl, ?_⟩
    refine p_165 (fun g => ?_) (fun g => ?_)
    · replace h := h.1 g
      rw [lk66 hl]
      refine ⟨fun _ => ?_, fun g => absurd g (by decide)⟩
      refine ⟨rfl, ?_⟩
      refine q_WP_mono _ _ _ _ _ _ (fun v5 M6 hh => ?_) h
      obtain ⟨hlM6, h⟩ := hh
      exact h
    · replace h := h.2 g
      rw [lk66 hl]
      refine ⟨fun g => absurd g (by decide), fun _ => ?_⟩
      exact h
  · replace h := h.2.2 g
    rw [lk66 hl]
    refine ⟨fun _ => ?_, fun g => absurd g (by decide)⟩
    exact h
theorem t_205_29 {d : Nat} {P : Int → qM → Prop} {x2 x3 x4 x5 : Int} {M : qM} {c s : Nat} (hl : q_lay M) (h : (((q_nm M 66 55) ≤ x5 → (P x4 M)) ∧ (x5 < (q_nm M 66 55) → ((0 ≤ x5 ∧ x5 < 640) ∧ ((¬ (q_nm M 108 x5) = x2 → (q_At q_m205 (q_WP q_Pr d) P 29 [(0, .inr (.inr 66)), (2, .inl x2), (3, .inl x3), (4, .inl x4), (5, .inl (w32 (x5 + 1)))] [] M c s)) ∧ ((q_nm M 108 x5) = x2 → ((x3 = 0 → (q_At q_m205 (q_WP q_Pr d) P 29 [(0, .inr (.inr 66)), (2, .inl x2), (3, .inl x3), (4, .inl (w32 (x4 + 1))), (5, .inl (w32 (x5 + 1)))] [] M c s)) ∧ (¬ x3 = 0 → ((0 ≤ x5 ∧ x5 < 640) ∧ (((q_nm M 115 x5) = 0 → (q_At q_m205 (q_WP q_Pr d) P 29 [(0, .inr (.inr 66)), (2, .inl x2), (3, .inl x3), (4, .inl x4), (5, .inl (w32 (x5 + 1)))] [] M c s)) ∧ (¬ (q_nm M 115 x5) = 0 → (q_At q_m205 (q_WP q_Pr d) P 29 [(0, .inr (.inr 66)), (2, .inl x2), (3, .inl x3), (4, .inl (w32 (x4 + 1))), (5, .inl (w32 (x5 + 1)))] [] M c s)))))))))))) : q_At q_m205 (q_WP q_Pr d) P 29 [(0, .inr (.inr 66)), (2, .inl x2), (3, .inl x3), (4, .inl x4), (5, .inl x5)] [] M c s := by
  refine s_205_29 ?_
  rw [lk66 hl, lr66_57 hl, ll108 hl, lk108 hl, lr66_64 hl, ll115 hl, lk115 hl]
  refine ⟨rfl, ?_⟩
  refine ⟨?_, ?_⟩
  · replace h := h.1
    intro g
    replace h := h g
    exact h
  · replace h := h.2
    intro g
    replace h := h g
    refine ⟨rfl, ?_⟩
    refine ⟨⟨rfl, h.1⟩, ?_⟩
    replace h := h.2
    refine ⟨?_, ?_⟩
    · replace h := h.1
      intro g
      replace h := h g
      exact h
    · replace h := h.2
      intro g
      replace h := h g
      refine ⟨?_, ?_⟩
      · replace h := h.1
        intro g
        replace h := h g
        exact h
      · replace h := h.2
        intro g
        replace h := h g
        refine ⟨rfl, ?_⟩
        refine ⟨⟨Or.inr rfl, h.1⟩, ?_⟩
        replace h := h.2
        refine ⟨?_, ?_⟩
        · replace h := h.1
          intro g
          replace h := h g
          exact h
        · replace h := h.2
          intro g
          replace h := h g
          exact h
theorem t_206_0 {d : Nat} {P : Int → qM → Prop} {x0 : Int} {M : qM} {c s : Nat} (hl : q_lay M) (h : (((q_lc x0 (1000000 : Int)) ≤ 0 → ((0 ≤ (q_lc x0 (-1000000 : Int)) → (P x0 M)) ∧ ((q_lc x0 (-1000000 : Int)) < 0 → (P (-1000000 : Int) M)))) ∧ (0 < (q_lc x0 (1000000 : Int)) → (P (1000000 : Int) M)))) : q_At q_m206 (q_WP q_Pr d) P 0 [(0, .inr (.inl x0))] [] M c s := by
  refine s_206_0 ?_
  refine ⟨?_, ?_⟩
  · replace h := h.1
    intro g
    replace h := h g
    refine ⟨?_, ?_⟩
    · replace h := h.1
      intro g
      replace h := h g
      exact h
    · replace h := h.2
      intro g
      replace h := h g
      exact h
  · replace h := h.2
    intro g
    replace h := h g
    exact h
theorem t_207_0 {d : Nat} {P : Int → qM → Prop} {x0 x2 : Int} {M : qM} {c s : Nat} (hl : q_lay M) (h : ((¬ (q_lc x2 (0 : Int)) = 0 → ((x2 ≠ 0) ∧ ((x2 ≠ 0) ∧ (((q_lc (Int.tmod x0 x2) (0 : Int)) = 0 → (P (w64 (Int.tdiv x0 x2)) M)) ∧ (¬ (q_lc (Int.tmod x0 x2) (0 : Int)) = 0 → ((0 ≤ (q_lc x0 (0 : Int)) → ((0 ≤ (q_lc x2 (0 : Int)) → (((0 : Int) = (0 : Int) → (P (w64 (Int.tdiv x0 x2)) M)) ∧ (¬ (0 : Int) = (0 : Int) → (P (w64 ((w64 (Int.tdiv x0 x2)) - (1 : Int))) M)))) ∧ ((q_lc x2 (0 : Int)) < 0 → (((0 : Int) = (1 : Int) → (P (w64 (Int.tdiv x0 x2)) M)) ∧ (¬ (0 : Int) = (1 : Int) → (P (w64 ((w64 (Int.tdiv x0 x2)) - (1 : Int))) M)))))) ∧ ((q_lc x0 (0 : Int)) < 0 → ((0 ≤ (q_lc x2 (0 : Int)) → (((1 : Int) = (0 : Int) → (P (w64 (Int.tdiv x0 x2)) M)) ∧ (¬ (1 : Int) = (0 : Int) → (P (w64 ((w64 (Int.tdiv x0 x2)) - (1 : Int))) M)))) ∧ ((q_lc x2 (0 : Int)) < 0 → (((1 : Int) = (1 : Int) → (P (w64 (Int.tdiv x0 x2)) M)) ∧ (¬ (1 : Int) = (1 : Int) → (P (w64 ((w64 (Int.tdiv x0 x2)) - (1 : Int))) M)))))))))))) ∧ ((q_lc x2 (0 : Int)) = 0 → (P (0 : Int) M)))) : q_At q_m207 (q_WP q_Pr d) P 0 [(0, .inr (.inl x0)), (2, .inr (.inl x2))] [] M c s := by
  refine s_207_0 ?_
  refine ⟨?_, ?_⟩
  · replace h := h.1
    intro g
    replace h := h g
    refine ⟨h.1, ?_⟩
    replace h := h.2
    refine ⟨h.1, ?_⟩
    replace h := h.2
    refine ⟨?_, ?_⟩
    · replace h := h.1
      intro g
      replace h := h g
      exact h
    · replace h := h.2
      intro g
      replace h := h g
      refine ⟨?_, ?_⟩
      · replace h := h.1
        intro g
        replace h := h g
        refine ⟨?_, ?_⟩
        · replace h := h.1
          intro g
          replace h := h g
          refine ⟨?_, ?_⟩
          · replace h := h.1
            intro g
            replace h := h g
            exact h
          · replace h := h.2
            intro g
            replace h := h g
            exact h
        · replace h := h.2
          intro g
          replace h := h g
          refine ⟨?_, ?_⟩
          · replace h := h.1
            intro g
            replace h := h g
            exact h
          · replace h := h.2
            intro g
            replace h := h g
            exact h
      · replace h := h.2
        intro g
        replace h := h g
        refine ⟨?_, ?_⟩
        · replace h := h.1
          intro g
          replace h := h g
          refine ⟨?_, ?_⟩
          · replace h := h.1
            intro g
            replace h := h g
            exact h
          · replace h := h.2
            intro g
            replace h := h g
            exact h
        · replace h := h.2
          intro g
          replace h := h g
          refine ⟨?_, ?_⟩
          · replace h := h.1
            intro g
            replace h := h g
            exact h
          · replace h := h.2
            intro g
            replace h := h g
            exact h
  · replace h := h.2
    intro g
    replace h := h g
    exact h
theorem t_208_0 {d : Nat} {P : Int → qM → Prop} {x1 : Int} {M : qM} {c s : Nat} (hl : q_lay M) (h : ((0 ≤ (q_nm M 66 69) ∧ (q_nm M 66 69) < 2200) ∧ (∀ M1 : qM, M1 = q_wn M 117 (q_nm M 66 69) x1 → q_lay M1 → (∀ M2 : qM, M2 = q_wn M1 66 69 (w32 ((q_nm M1 66 69) + (1 : Int))) → q_lay M2 → (P (0 : Int) M2))))) : q_At q_m208 (q_WP q_Pr d) P 0 [(0, .inr (.inr 66)), (1, .inr (.inl x1))] [] M c s := by
  refine s_208_0 ?_
  rw [lk66 hl, lr66_68 hl, ll117 hl, lk117 hl]
  refine ⟨rfl, ?_⟩
  refine ⟨rfl, ?_⟩
  refine ⟨⟨rfl, h.1⟩, ?_⟩
  replace h := h.2
  intro M1
  have hlM1 : q_lay M1 := q_lay_wn hl
  replace h := h M1 rfl hlM1
  rw [lk66 hlM1]
  refine ⟨rfl, ?_⟩
  refine ⟨rfl, ?_⟩
  intro M2
  have hlM2 : q_lay M2 := q_lay_wn hlM1
  replace h := h M2 rfl hlM2
  exact h
theorem t_209_0 {d : Nat} {P : Int → qM → Prop} {x1 : Int} {M : qM} {c s : Nat} (hl : q_lay M) (h : ((0 ≤ (w32 ((q_nm M 66 69) - (1 : Int))) ∧ (w32 ((q_nm M 66 69) - (1 : Int))) < 2200) ∧ ((0 ≤ (w32 ((q_nm M 66 69) - (2 : Int))) ∧ (w32 ((q_nm M 66 69) - (2 : Int))) < 2200) ∧ (∀ M1 : qM, M1 = q_wn M 66 69 (w32 ((q_nm M 66 69) - (2 : Int))) → q_lay M1 → (((x1 = 1 → q_WP q_Pr d 206 [.inr (.inl (w64 ((q_nm M 117 (w32 ((q_nm M 66 69) - (2 : Int)))) + (q_nm M 117 (w32 ((q_nm M 66 69) - (1 : Int)))))))] M1 (fun v2 M3 => q_lay M3 ∧ q_WP q_Pr d 208 [.inr (.inr 66), .inr (.inl v2)] M3 (fun v4 M5 => q_lay M5 ∧ (q_At q_m209 (q_WP q_Pr d) P 289 [] [] M5 c s)))) ∧ ((x1 = 2 → q_WP q_Pr d 206 [.inr (.inl (w64 ((q_nm M 117 (w32 ((q_nm M 66 69) - (2 : Int)))) - (q_nm M 117 (w32 ((q_nm M 66 69) - (1 : Int)))))))] M1 (fun v6 M7 => q_lay M7 ∧ q_WP q_Pr d 208 [.inr (.inr 66), .inr (.inl v6)] M7 (fun v8 M9 => q_lay M9 ∧ (q_At q_m209 (q_WP q_Pr d) P 289 [] [] M9 c s)))) ∧ ((x1 = 3 → q_WP q_Pr d 206 [.inr (.inl (w64 ((q_nm M 117 (w32 ((q_nm M 66 69) - (2 : Int)))) * (q_nm M 117 (w32 ((q_nm M 66 69) - (1 : Int)))))))] M1 (fun v10 M11 => q_lay M11 ∧ q_WP q_Pr d 208 [.inr (.inr 66), .inr (.inl v10)] M11 (fun v12 M13 => q_lay M13 ∧ (q_At q_m209 (q_WP q_Pr d) P 289 [] [] M13 c s)))) ∧ ((x1 = 4 → q_WP q_Pr d 207 [.inr (.inl (q_nm M 117 (w32 ((q_nm M 66 69) - (2 : Int))))), .inr (.inl (q_nm M 117 (w32 ((q_nm M 66 69) - (1 : Int)))))] M1 (fun v14 M15 => q_lay M15 ∧ q_WP q_Pr d 208 [.inr (.inr 66), .inr (.inl v14)] M15 (fun v16 M17 => q_lay M17 ∧ (q_At q_m209 (q_WP q_Pr d) P 289 [] [] M17 c s)))) ∧ ((x1 = 5 → ((0 ≤ (q_lc (q_nm M 117 (w32 ((q_nm M 66 69) - (2 : Int)))) (q_nm M 117 (w32 ((q_nm M 66 69) - (1 : Int))))) → q_WP q_Pr d 208 [.inr (.inr 66), .inr (.inl (q_nm M 117 (w32 ((q_nm M 66 69) - (1 : Int)))))] M1 (fun v18 M19 => q_lay M19 ∧ (q_At q_m209 (q_WP q_Pr d) P 289 [] [] M19 c s))) ∧ ((q_lc (q_nm M 117 (w32 ((q_nm M 66 69) - (2 : Int)))) (q_nm M 117 (w32 ((q_nm M 66 69) - (1 : Int))))) < 0 → q_WP q_Pr d 208 [.inr (.inr 66), .inr (.inl (q_nm M 117 (w32 ((q_nm M 66 69) - (2 : Int)))))] M1 (fun v20 M21 => q_lay M21 ∧ (q_At q_m209 (q_WP q_Pr d) P 289 [] [] M21 c s))))) ∧ ((x1 = 6 → (((q_lc (q_nm M 117 (w32 ((q_nm M 66 69) - (2 : Int)))) (q_nm M 117 (w32 ((q_nm M 66 69) - (1 : Int))))) ≤ 0 → q_WP q_Pr d 208 [.inr (.inr 66), .inr (.inl (q_nm M 117 (w32 ((q_nm M 66 69) - (1 : Int)))))] M1 (fun v22 M23 => q_lay M23 ∧ (q_At q_m209 (q_WP q_Pr d) P 289 [] [] M23 c s))) ∧ (0 < (q_lc (q_nm M 117 (w32 ((q_nm M 66 69) - (2 : Int)))) (q_nm M 117 (w32 ((q_nm M 66 69) - (1 : Int))))) → q_WP q_Pr d 208 [.inr (.inr 66), .inr (.inl (q_nm M 117 (w32 ((q_nm M 66 69) - (2 : Int)))))] M1 (fun v24 M25 => q_lay M25 ∧ (q_At q_m209 (q_WP q_Pr d) P 289 [] [] M25 c s))))) ∧ ((x1 = 7 → (q_At q_m209 (q_WP q_Pr d) P 271 [(0, .inr (.inr 66)), (2, .inr (.inl (q_nm M 117 (w32 ((q_nm M 66 69) - (1 : Int)))))), (4, .inr (.inl (q_nm M 117 (w32 ((q_nm M 66 69) - (2 : Int))))))] [] M1 c s)) ∧ ((x1 = 8 → (q_At q_m209 (q_WP q_Pr d) P 271 [(0, .inr (.inr 66)), (2, .inr (.inl (q_nm M 117 (w32 ((q_nm M 66 69) - (1 : Int)))))), (4, .inr (.inl (q_nm M 117 (w32 ((q_nm M 66 69) - (2 : Int))))))] [] M1 c s)) ∧ ((x1 = 9 → (q_At q_m209 (q_WP q_Pr d) P 271 [(0, .inr (.inr 66)), (2, .inr (.inl (q_nm M 117 (w32 ((q_nm M 66 69) - (1 : Int)))))), (4, .inr (.inl (q_nm M 117 (w32 ((q_nm M 66 69) - (2 : Int))))))] [] M1 c s)) ∧ ((x1 = 10 → (q_At q_m209 (q_WP q_Pr d) P 271 [(0, .inr (.inr 66)), (2, .inr (.inl (q_nm M 117 (w32 ((q_nm M 66 69) - (1 : Int)))))), (4, .inr (.inl (q_nm M 117 (w32 ((q_nm M 66 69) - (2 : Int))))))] [] M1 c s)) ∧ ((x1 = 11 → ((0 ≤ (q_lc (q_nm M 117 (w32 ((q_nm M 66 69) - (2 : Int)))) (q_nm M 117 (w32 ((q_nm M 66 69) - (1 : Int))))) → q_WP q_Pr d 208 [.inr (.inr 66), .inr (.inl (0 : Int))] M1 (fun v26 M27 => q_lay M27 ∧ (q_At q_m209 (q_WP q_Pr d) P 289 [] [] M27 c s))) ∧ ((q_lc (q_nm M 117 (w32 ((q_nm M 66 69) - (2 : Int)))) (q_nm M 117 (w32 ((q_nm M 66 69) - (1 : Int))))) < 0 → q_WP q_Pr d 208 [.inr (.inr 66), .inr (.inl (1 : Int))] M1 (fun v28 M29 => q_lay M29 ∧ (q_At q_m209 (q_WP q_Pr d) P 289 [] [] M29 c s))))) ∧ ((x1 = 12 → (((q_lc (q_nm M 117 (w32 ((q_nm M 66 69) - (2 : Int)))) (q_nm M 117 (w32 ((q_nm M 66 69) - (1 : Int))))) ≤ 0 → q_WP q_Pr d 208 [.inr (.inr 66), .inr (.inl (0 : Int))] M1 (fun v30 M31 => q_lay M31 ∧ (q_At q_m209 (q_WP q_Pr d) P 289 [] [] M31 c s))) ∧ (0 < (q_lc (q_nm M 117 (w32 ((q_nm M 66 69) - (2 : Int)))) (q_nm M 117 (w32 ((q_nm M 66 69) - (1 : Int))))) → q_WP q_Pr d 208 [.inr (.inr 66), .inr (.inl (1 : Int))] M1 (fun v32 M33 => q_lay M33 ∧ (q_At q_m209 (q_WP q_Pr d) P 289 [] [] M33 c s))))) ∧ ((x1 = 13 → ((¬ (q_lc (q_nm M 117 (w32 ((q_nm M 66 69) - (2 : Int)))) (q_nm M 117 (w32 ((q_nm M 66 69) - (1 : Int))))) = 0 → q_WP q_Pr d 208 [.inr (.inr 66), .inr (.inl (0 : Int))] M1 (fun v34 M35 => q_lay M35 ∧ (q_At q_m209 (q_WP q_Pr d) P 289 [] [] M35 c s))) ∧ ((q_lc (q_nm M 117 (w32 ((q_nm M 66 69) - (2 : Int)))) (q_nm M 117 (w32 ((q_nm M 66 69) - (1 : Int))))) = 0 → q_WP q_Pr d 208 [.inr (.inr 66), .inr (.inl (1 : Int))] M1 (fun v36 M37 => q_lay M37 ∧ (q_At q_m209 (q_WP q_Pr d) P 289 [] [] M37 c s))))) ∧ ((x1 = 14 → q_WP q_Pr d 208 [.inr (.inr 66), .inr (.inl (w64 ((q_nm M 117 (w32 ((q_nm M 66 69) - (2 : Int)))) * (q_nm M 117 (w32 ((q_nm M 66 69) - (1 : Int)))))))] M1 (fun v38 M39 => q_lay M39 ∧ (q_At q_m209 (q_WP q_Pr d) P 289 [] [] M39 c s))) ∧ True)))))))))))))) ∧ ((x1 < 1 ∨ 14 < x1) → (q_At q_m209 (q_WP q_Pr d) P 271 [(0, .inr (.inr 66)), (2, .inr (.inl (q_nm M 117 (w32 ((q_nm M 66 69) - (1 : Int)))))), (4, .inr (.inl (q_nm M 117 (w32 ((q_nm M 66 69) - (2 : Int))))))] [] M1 c s))))))) : q_At q_m209 (q_WP q_Pr d) P 0 [(0, .inr (.inr 66)), (1, .inl x1)] [] M c s := by
  refine s_209_0 ?_
  rw [lk66 hl, lr66_68 hl, ll117 hl, lk117 hl]
  refine ⟨rfl, ?_⟩
  refine ⟨rfl, ?_⟩
  refine ⟨⟨rfl, h.1⟩, ?_⟩
  replace h := h.2
  refine ⟨rfl, ?_⟩
  refine ⟨rfl, ?_⟩
  refine ⟨⟨rfl, h.1⟩, ?_⟩
  replace h := h.2
  refine ⟨rfl, ?_⟩
  refine ⟨rfl, ?_⟩
  intro M1
  have hlM1 : q_lay M1 := q_lay_wn hl
  replace h := h M1 rfl hlM1
  rw [lk66 hlM1]
  refine ⟨?_, ?_⟩
  · replace h := h.1
    refine ⟨?_, ?_⟩
    · replace h := h.1
      intro g
      replace h := h g
      refine q_WP_mono _ _ _ _ _ _ (fun v2 M3 hh => ?_) h
      obtain ⟨hlM3, h⟩ := hh
      rw [lk66 hlM3]
      refine ⟨rfl, ?_⟩
      refine q_WP_mono _ _ _ _ _ _ (fun v4 M5 hh => ?_) h
      obtain ⟨hlM5, h⟩ := hh
      exact h
    · replace h := h.2
      refine ⟨?_, ?_⟩
      · replace h := h.1
        intro g
        replace h := h g
        refine q_WP_mono _ _ _ _ _ _ (fun v6 M7 hh => ?_) h
        obtain ⟨hlM7, h⟩ := hh
        rw [lk66 hlM7]
        refine ⟨rfl, ?_⟩
        refine q_WP_mono _ _ _ _ _ _ (fun v8 M9 hh => ?_) h
        obtain ⟨hlM9, h⟩ := hh
        exact h
      · replace h := h.2
        refine ⟨?_, ?_⟩
        · replace h := h.1
          intro g
          replace h := h g
          refine q_WP_mono _ _ _ _ _ _ (fun v10 M11 hh => ?_) h
          obtain ⟨hlM11, h⟩ := hh
          rw [lk66 hlM11]
          refine ⟨rfl, ?_⟩
          refine q_WP_mono _ _ _ _ _ _ (fun v12 M13 hh => ?_) h
          obtain ⟨hlM13, h⟩ := hh
          exact h
        · replace h := h.2
          refine ⟨?_, ?_⟩
          · replace h := h.1
            intro g
            replace h := h g
            refine q_WP_mono _ _ _ _ _ _ (fun v14 M15 hh => ?_) h
            obtain ⟨hlM15, h⟩ := hh
            rw [lk66 hlM15]
            refine ⟨rfl, ?_⟩
            refine q_WP_mono _ _ _ _ _ _ (fun v16 M17 hh => ?_) h
            obtain ⟨hlM17, h⟩ := hh
            exact h
          · replace h := h.2
            refine ⟨?_, ?_⟩
            · replace h := h.1
              intro g
              replace h := h g
              refine ⟨?_, ?_⟩
              · replace h := h.1
                intro g
                replace h := h g
                refine ⟨rfl, ?_⟩
                refine q_WP_mono _ _ _ _ _ _ (fun v18 M19 hh => ?_) h
                obtain ⟨hlM19, h⟩ := hh
                exact h
              · replace h := h.2
                intro g
                replace h := h g
                refine ⟨rfl, ?_⟩
                refine q_WP_mono _ _ _ _ _ _ (fun v20 M21 hh => ?_) h
                obtain ⟨hlM21, h⟩ := hh
                exact h
            · replace h := h.2
              refine ⟨?_, ?_⟩
              · replace h := h.1
                intro g
                replace h := h g
                refine ⟨?_, ?_⟩
                · replace h := h.1
                  intro g
                  replace h := h g
                  refine ⟨rfl, ?_⟩
                  refine q_WP_mono _ _ _ _ _ _ (fun v22 M23 hh => ?_) h
                  obtain ⟨hlM23, h⟩ := hh
                  exact h
                · replace h := h.2
                  intro g
                  replace h := h g
                  refine ⟨rfl, ?_⟩
                  refine q_WP_mono _ _ _ _ _ _ (fun v24 M25 hh => ?_) h
                  obtain ⟨hlM25, h⟩ := hh
                  exact h
              · replace h := h.2
                refine ⟨?_, ?_⟩
                · replace h := h.1
                  intro g
                  replace h := h g
                  exact h
                · replace h := h.2
                  refine ⟨?_, ?_⟩
                  · replace h := h.1
                    intro g
                    replace h := h g
                    exact h
                  · replace h := h.2
                    refine ⟨?_, ?_⟩
                    · replace h := h.1
                      intro g
                      replace h := h g
                      exact h
                    · replace h := h.2
                      refine ⟨?_, ?_⟩
                      · replace h := h.1
                        intro g
                        replace h := h g
                        exact h
                      · replace h := h.2
                        refine ⟨?_, ?_⟩
                        · replace h := h.1
                          intro g
                          replace h := h g
                          refine ⟨?_, ?_⟩
                          · replace h := h.1
                            intro g
                            replace h := h g
                            refine ⟨rfl, ?_⟩
                            refine q_WP_mono _ _ _ _ _ _ (fun v26 M27 hh => ?_) h
                            obtain ⟨hlM27, h⟩ := hh
                            exact h
                          · replace h := h.2
                            intro g
                            replace h := h g
                            refine ⟨rfl, ?_⟩
                            refine q_WP_mono _ _ _ _ _ _ (fun v28 M29 hh => ?_) h
                            obtain ⟨hlM29, h⟩ := hh
                            exact h
                        · replace h := h.2
                          refine ⟨?_, ?_⟩
                          · replace h := h.1
                            intro g
                            replace h := h g
                            refine ⟨?_, ?_⟩
                            · replace h := h.1
                              intro g
                              replace h := h g
                              refine ⟨rfl, ?_⟩
                              refine q_WP_mono _ _ _ _ _ _ (fun v30 M31 hh => ?_) h
                              obtain ⟨hlM31, h⟩ := hh
                              exact h
                            · replace h := h.2
                              intro g
                              replace h := h g
                              refine ⟨rfl, ?_⟩
                              refine q_WP_mono _ _ _ _ _ _ (fun v32 M33 hh => ?_) h
                              obtain ⟨hlM33, h⟩ := hh
                              exact h
                          · replace h := h.2
                            refine ⟨?_, ?_⟩
                            · replace h := h.1
                              intro g
                              replace h := h g
                              refine ⟨?_, ?_⟩
                              · replace h := h.1
                                intro g
                                replace h := h g
                                refine ⟨rfl, ?_⟩
                                refine q_WP_mono _ _ _ _ _ _ (fun v34 M35 hh => ?_) h
                                obtain ⟨hlM35, h⟩ := hh
                                exact h
                              · replace h := h.2
                                intro g
                                replace h := h g
                                refine ⟨rfl, ?_⟩
                                refine q_WP_mono _ _ _ _ _ _ (fun v36 M37 hh => ?_) h
                                obtain ⟨hlM37, h⟩ := hh
                                exact h
                            · replace h := h.2
                              refine ⟨?_, ?_⟩
                              · replace h := h.1
                                intro g
                                replace h := h g
                                refine ⟨rfl, ?_⟩
                                refine q_WP_mono _ _ _ _ _ _ (fun v38 M39 hh => ?_) h
                                obtain ⟨hlM39, h⟩ := hh
                                exact h
                              · replace h := h.2
                                exact trivial
  · replace h := h.2
    intro g
    replace h := h g
    exact h
theorem t_209_271 {d : Nat} {P : Int → qM → Prop} {x2 x4 : Int} {M : qM} {c s : Nat} (hl : q_lay M) (h : (((q_lc (w64 (x4 + x2)) (0 : Int)) ≤ 0 → (q_At q_m209 (q_WP q_Pr d) P 286 [] [.inr (.inl (0 : Int)), .inr (.inr 66)] M c s)) ∧ (0 < (q_lc (w64 (x4 + x2)) (0 : Int)) → (q_At q_m209 (q_WP q_Pr d) P 286 [] [.inr (.inl (1 : Int)), .inr (.inr 66)] M c s)))) : q_At q_m209 (q_WP q_Pr d) P 271 [(0, .inr (.inr 66)), (2, .inr (.inl x2)), (4, .inr (.inl x4))] [] M c s := by
  refine s_209_271 ?_
  refine ⟨?_, ?_⟩
  · replace h := h.1
    intro g
    replace h := h g
    exact h
  · replace h := h.2
    intro g
    replace h := h g
    exact h
theorem t_209_286 {d : Nat} {P : Int → qM → Prop} {y0 y1 : Int} {M : qM} {c s : Nat} (hl : q_lay M) (h : ((q_kd M y1 = 11) ∧ q_WP q_Pr d 208 [.inr (.inr y1), .inr (.inl y0)] M (fun v1 M2 => q_lay M2 ∧ (q_At q_m209 (q_WP q_Pr d) P 289 [] [] M2 c s)))) : q_At q_m209 (q_WP q_Pr d) P 286 [] [.inr (.inl y0), .inr (.inr y1)] M c s := by
  refine s_209_286 ?_
  refine ⟨h.1, ?_⟩
  replace h := h.2
  refine q_WP_mono _ _ _ _ _ _ (fun v1 M2 hh => ?_) h
  obtain ⟨hlM2, h⟩ := hh
  exact h
theorem t_209_289 {d : Nat} {P : Int → qM → Prop} {M : qM} {c s : Nat} (hl : q_lay M) (h : (P (0 : Int) M)) : q_At q_m209 (q_WP q_Pr d) P 289 [] [] M c s := by
  refine s_209_289 ?_
  exact h
theorem t_210_0 {d : Nat} {P : Int → qM → Prop} {x1 : Int} {M : qM} {c s : Nat} (hl : q_lay M) (h : ((0 ≤ x1 ∧ x1 < 640) ∧ (((q_nm M 108 x1) = 0 → (P (-1 : Int) M)) ∧ (¬ (q_nm M 108 x1) = 0 → ((¬ (q_nm M 108 x1) = (8 : Int) → (((5 : Int) ≤ (q_nm M 108 x1) → ((0 ≤ x1 ∧ x1 < 640) ∧ (P (q_nm M 110 x1) M))) ∧ ((q_nm M 108 x1) < (5 : Int) → ((0 ≤ x1 ∧ x1 < 640) ∧ (((0 ≤ (q_nm M 66 56) ∧ (q_nm M 66 56) < 12) ∧ 0 ≤ (q_nm M 110 x1) ∧ (q_nm M 110 x1) < 6) ∧ (P (q_nm M 99 (6 * (q_nm M 66 56) + (q_nm M 110 x1))) M)))))) ∧ ((q_nm M 108 x1) = (8 : Int) → (P (-1 : Int) M))))))) : q_At q_m210 (q_WP q_Pr (d + 1)) P 0 [(0, .inr (.inr 66)), (1, .inl x1)] [] M c s := by
  refine s_210_0 ?_
  rw [lk66 hl, lr66_57 hl, ll108 hl, lk108 hl, lr66_59 hl, ll110 hl, lk110 hl]
  refine ⟨rfl, ?_⟩
  refine ⟨⟨rfl, h.1⟩, ?_⟩
  replace h := h.2
  refine ⟨?_, ?_⟩
  · replace h := h.1
    intro g
    replace h := h g
    exact h
  · replace h := h.2
    intro g
    replace h := h g
    refine ⟨?_, ?_⟩
    · replace h := h.1
      intro g
      replace h := h g
      refine ⟨?_, ?_⟩
      · replace h := h.1
        intro g
        replace h := h g
        refine ⟨rfl, ?_⟩
        refine ⟨⟨rfl, h.1⟩, ?_⟩
        replace h := h.2
        exact h
      · replace h := h.2
        intro g
        replace h := h g
        refine ⟨rfl, ?_⟩
        refine ⟨rfl, ?_⟩
        refine ⟨⟨rfl, h.1⟩, ?_⟩
        replace h := h.2
        refine ⟨rfl, ?_⟩
        refine p_188 hl h.1 ?_
        replace h := h.2
        exact h
    · replace h := h.2
      intro g
      replace h := h g
      exact h
theorem t_211_0 {d : Nat} {P : Int → qM → Prop} {x1 x2 : Int} {M : qM} {c s : Nat} (hl : q_lay M) (h : ((0 ≤ x2 ∧ x2 < 640) ∧ q_WP q_Pr (d + 1) 210 [.inr (.inr 66), .inl x2] M (fun v1 M2 => q_lay M2 ∧ ((¬ (q_nm M 108 x2) = 0 → ((0 ≤ x2 ∧ x2 < 640) ∧ (((0 ≤ (q_nm M2 66 56) ∧ (q_nm M2 66 56) < 12) ∧ 0 ≤ (q_nm M2 109 x2) ∧ (q_nm M2 109 x2) < 6) ∧ (q_At q_m211 (q_WP q_Pr (d + 1)) P 36 [(0, .inr (.inr 66)), (1, .inl x1), (2, .inl x2), (3, .inl (q_nm M 108 x2)), (4, .inl v1)] [.inl (q_nm M2 99 (6 * (q_nm M2 66 56) + (q_nm M2 109 x2)))] M2 c s)))) ∧ ((q_nm M 108 x2) = 0 → (q_At q_m211 (q_WP q_Pr (d + 1)) P 36 [(0, .inr (.inr 66)), (1, .inl x1), (2, .inl x2), (3, .inl (q_nm M 108 x2)), (4, .inl v1)] [.inl (-1 : Int)] M2 c s)))))) : q_At q_m211 (q_WP q_Pr (d + 1)) P 0 [(0, .inr (.inr 66)), (1, .inl x1), (2, .inl x2)] [] M c s := by
  refine s_211_0 ?_
  rw [lk66 hl, lr66_57 hl, ll108 hl, lk108 hl]
  refine ⟨rfl, ?_⟩
  refine ⟨⟨rfl, h.1⟩, ?_⟩
  replace h := h.2
  refine ⟨rfl, ?_⟩
  refine q_WP_mono _ _ _ _ _ _ (fun v1 M2 hh => ?_) h
  obtain ⟨hlM2, h⟩ := hh
  rw [lk66 hlM2, lr66_58 hlM2, ll109 hlM2, lk109 hlM2]
  refine ⟨?_, ?_⟩
  · replace h := h.1
    intro g
    replace h := h g
    refine ⟨rfl, ?_⟩
    refine ⟨rfl, ?_⟩
    refine ⟨⟨rfl, h.1⟩, ?_⟩
    replace h := h.2
    refine ⟨rfl, ?_⟩
    refine p_188 hlM2 h.1 ?_
    replace h := h.2
    exact h
  · replace h := h.2
    intro g
    replace h := h g
    exact h
theorem t_211_36 {d : Nat} {P : Int → qM → Prop} {x1 x2 x3 x4 y0 : Int} {M : qM} {c s : Nat} (hl : q_lay M) (h : (((x1 = 7 → ((0 ≤ x2 ∧ x2 < 640) ∧ (P (q_nm M 113 x2) M))) ∧ ((x1 = 8 → ((¬ x3 = 0 → ((0 ≤ x2 ∧ x2 < 640) ∧ (P (q_nm M 109 x2) M))) ∧ (x3 = 0 → (P (0 : Int) M)))) ∧ ((x1 = 9 → ((0 ≤ (q_nm M 66 56) ∧ (q_nm M 66 56) < 12) ∧ (P (q_nm M 98 (q_nm M 66 56)) M))) ∧ ((x1 = 10 → ((¬ x4 = (-1 : Int) → ((0 ≤ x4 ∧ x4 < 30) ∧ (P (q_nm M 97 x4) M))) ∧ (x4 = (-1 : Int) → (P (0 : Int) M)))) ∧ ((x1 = 11 → (q_At q_m211 (q_WP q_Pr d) P 212 [(0, .inr (.inr 66)), (2, .inl x2)] [] M c s)) ∧ ((x1 = 12 → (q_At q_m211 (q_WP q_Pr d) P 212 [(0, .inr (.inr 66)), (2, .inl x2)] [] M c s)) ∧ ((x1 = 13 → (q_At q_m211 (q_WP q_Pr d) P 212 [(0, .inr (.inr 66)), (2, .inl x2)] [] M c s)) ∧ ((x1 = 14 → (q_At q_m211 (q_WP q_Pr d) P 212 [(0, .inr (.inr 66)), (2, .inl x2)] [] M c s)) ∧ ((x1 = 15 → (q_At q_m211 (q_WP q_Pr d) P 212 [(0, .inr (.inr 66)), (2, .inl x2)] [] M c s)) ∧ ((x1 = 16 → (q_At q_m211 (q_WP q_Pr d) P 212 [(0, .inr (.inr 66)), (2, .inl x2)] [] M c s)) ∧ ((x1 = 17 → (q_At q_m211 (q_WP q_Pr d) P 212 [(0, .inr (.inr 66)), (2, .inl x2)] [] M c s)) ∧ ((x1 = 18 → ((¬ y0 = (-1 : Int) → ((0 ≤ y0 ∧ y0 < 30) ∧ (P (q_nm M 97 y0) M))) ∧ (y0 = (-1 : Int) → (P (0 : Int) M)))) ∧ ((x1 = 19 → ((x4 = (-1 : Int) → (P (0 : Int) M)) ∧ (¬ x4 = (-1 : Int) → ((y0 = (-1 : Int) → (P (0 : Int) M)) ∧ (¬ y0 = (-1 : Int) → ((0 ≤ x4 ∧ x4 < 30) ∧ ((0 ≤ y0 ∧ y0 < 30) ∧ ((¬ (q_nm M 95 x4) = (q_nm M 95 y0) → (P (0 : Int) M)) ∧ ((q_nm M 95 x4) = (q_nm M 95 y0) → (P (1 : Int) M)))))))))) ∧ True))))))))))))) ∧ ((x1 < 7 ∨ 19 < x1) → (q_At q_m211 (q_WP q_Pr d) P 212 [(0, .inr (.inr 66)), (2, .inl x2)] [] M c s)))) : q_At q_m211 (q_WP q_Pr d) P 36 [(0, .inr (.inr 66)), (1, .inl x1), (2, .inl x2), (3, .inl x3), (4, .inl x4)] [.inl y0] M c s := by
  refine s_211_36 ?_
  rw [lk66 hl, lr66_62 hl, ll113 hl, lk113 hl, lr66_58 hl, ll109 hl, lk109 hl, lr66_41 hl, ll98 hl, lk98 hl, lr66_39 hl, ll97 hl, lk97 hl, lr66_37 hl, ll95 hl, lk95 hl]
  refine ⟨?_, ?_⟩
  · replace h := h.1
    refine ⟨?_, ?_⟩
    · replace h := h.1
      intro g
      replace h := h g
      refine ⟨rfl, ?_⟩
      refine ⟨⟨rfl, h.1⟩, ?_⟩
      replace h := h.2
      exact h
    · replace h := h.2
      refine ⟨?_, ?_⟩
      · replace h := h.1
        intro g
        replace h := h g
        refine ⟨?_, ?_⟩
        · replace h := h.1
          intro g
          replace h := h g
          refine ⟨rfl, ?_⟩
          refine ⟨⟨rfl, h.1⟩, ?_⟩
          replace h := h.2
          exact h
        · replace h := h.2
          intro g
          replace h := h g
          exact h
      · replace h := h.2
        refine ⟨?_, ?_⟩
        · replace h := h.1
          intro g
          replace h := h g
          refine ⟨rfl, ?_⟩
          refine ⟨rfl, ?_⟩
          refine ⟨⟨rfl, h.1⟩, ?_⟩
          replace h := h.2
          exact h
        · replace h := h.2
          refine ⟨?_, ?_⟩
          · replace h := h.1
            intro g
            replace h := h g
            refine ⟨?_, ?_⟩
            · replace h := h.1
              intro g
              replace h := h g
              refine ⟨rfl, ?_⟩
              refine ⟨⟨rfl, h.1⟩, ?_⟩
              replace h := h.2
              exact h
            · replace h := h.2
              intro g
              replace h := h g
              exact h
          · replace h := h.2
            refine ⟨?_, ?_⟩
            · replace h := h.1
              intro g
              replace h := h g
              exact h
            · replace h := h.2
              refine ⟨?_, ?_⟩
              · replace h := h.1
                intro g
                replace h := h g
                exact h
              · replace h := h.2
                refine ⟨?_, ?_⟩
                · replace h := h.1
                  intro g
                  replace h := h g
                  exact h
                · replace h := h.2
                  refine ⟨?_, ?_⟩
                  · replace h := h.1
                    intro g
                    replace h := h g
                    exact h
                  · replace h := h.2
                    refine ⟨?_, ?_⟩
                    · replace h := h.1
                      intro g
                      replace h := h g
                      exact h
                    · replace h := h.2
                      refine ⟨?_, ?_⟩
                      · replace h := h.1
                        intro g
                        replace h := h g
                        exact h
                      · replace h := h.2
                        refine ⟨?_, ?_⟩
                        · replace h := h.1
                          intro g
                          replace h := h g
                          exact h
                        · replace h := h.2
                          refine ⟨?_, ?_⟩
                          · replace h := h.1
                            intro g
                            replace h := h g
                            refine ⟨?_, ?_⟩
                            · replace h := h.1
                              intro g
                              replace h := h g
                              refine ⟨rfl, ?_⟩
                              refine ⟨⟨rfl, h.1⟩, ?_⟩
                              replace h := h.2
                              exact h
                            · replace h := h.2
                              intro g
                              replace h := h g
                              exact h
                          · replace h := h.2
                            refine ⟨?_, ?_⟩
                            · replace h := h.1
                              intro g
                              replace h := h g
                              refine ⟨?_, ?_⟩
                              · replace h := h.1
                                intro g
                                replace h := h g
                                exact h
                              · replace h := h.2
                                intro g
                                replace h := h g
                                refine ⟨?_, ?_⟩
                                · replace h := h.1
                                  intro g
                                  replace h := h g
                                  exact h
                                · replace h := h.2
                                  intro g
                                  replace h := h g
                                  refine ⟨rfl, ?_⟩
                                  refine ⟨⟨rfl, h.1⟩, ?_⟩
                                  replace h := h.2
                                  refine ⟨rfl, ?_⟩
                                  refine ⟨⟨rfl, h.1⟩, ?_⟩
                                  replace h := h.2
                                  refine ⟨?_, ?_⟩
                                  · replace h := h.1
                                    intro g
                                    replace h := h g
                                    exact h
                                  · replace h := h.2
                                    intro g
                                    replace h := h g
                                    exact h
                            · replace h := h.2
                              exact trivial
  · replace h := h.2
    intro g
    replace h := h g
    exact h
theorem t_211_212 {d : Nat} {P : Int → qM → Prop} {x2 : Int} {M : qM} {c s : Nat} (hl : q_lay M) (h : ((0 ≤ x2 ∧ x2 < 640) ∧ (P (q_nm M 114 x2) M))) : q_At q_m211 (q_WP q_Pr d) P 212 [(0, .inr (.inr 66)), (2, .inl x2)] [] M c s := by
  refine s_211_212 ?_
  rw [lk66 hl, lr66_63 hl, ll114 hl, lk114 hl]
  refine ⟨rfl, ?_⟩
  refine ⟨⟨rfl, h.1⟩, ?_⟩
  replace h := h.2
  exact h
theorem t_212_0 {d : Nat} {P : Int → qM → Prop} {x1 x2 x3 x4 : Int} {M : qM} {c s : Nat} (hl : q_lay M) (h : (∀ M1 : qM, M1 = q_wn M 66 69 (0 : Int) → q_lay M1 → (q_At q_m212 (q_WP q_Pr d) P 8 [(0, .inr (.inr 66)), (1, .inl x1), (3, .inl x3), (4, .inl x4), (5, .inl x2)] [] M1 c s))) : q_At q_m212 (q_WP q_Pr d) P 0 [(0, .inr (.inr 66)), (1, .inl x1), (2, .inl x2), (3, .inl x3), (4, .inl x4)] [] M c s := by
  refine s_212_0 ?_
  rw [lk66 hl]
  refine ⟨rfl, ?_⟩
  intro M1
  have hlM1 : q_lay M1 := q_lay_wn hl
  replace h := h M1 rfl hlM1
  exact h
theorem t_212_8 {d : Nat} {P : Int → qM → Prop} {x1 x3 x4 x5 : Int} {M : qM} {c s : Nat} (hl : q_lay M) (h : ((x3 ≤ x5 → (P (q_nm M 117 (0 : Int)) M)) ∧ (x5 < x3 → ((0 ≤ (w32 ((w32 ((2100 : Int) * x1)) + x5)) ∧ (w32 ((w32 ((2100 : Int) * x1)) + x5)) < 12600) ∧ (((q_nm M 106 (w32 ((w32 ((2100 : Int) * x1)) + x5))) < (1000 : Int) → ((¬ (q_nm M 106 (w32 ((w32 ((2100 : Int) * x1)) + x5))) = (31 : Int) → ((¬ (q_nm M 106 (w32 ((w32 ((2100 : Int) * x1)) + x5))) = (17 : Int) → ((¬ (q_nm M 106 (w32 ((w32 ((2100 : Int) * x1)) + x5))) = (16 : Int) → (((q_nm M 106 (w32 ((w32 ((2100 : Int) * x1)) + x5))) = (30 : Int) → q_WP q_Pr d 211 [.inr (.inr 66), .inl (q_nm M 106 (w32 ((w32 ((2100 : Int) * x1)) + x5))), .inl x4] M (fun v1 M2 => q_lay M2 ∧ q_WP q_Pr d 208 [.inr (.inr 66), .inr (.inl v1)] M2 (fun v3 M4 => q_lay M4 ∧ (q_At q_m212 (q_WP q_Pr d) P 185 [(0, .inr (.inr 66)), (1, .inl x1), (3, .inl x3), (4, .inl x4), (5, .inl x5)] [] M4 c s)))) ∧ (¬ (q_nm M 106 (w32 ((w32 ((2100 : Int) * x1)) + x5))) = (30 : Int) → (((q_nm M 106 (w32 ((w32 ((2100 : Int) * x1)) + x5))) = (18 : Int) → q_WP q_Pr d 211 [.inr (.inr 66), .inl (q_nm M 106 (w32 ((w32 ((2100 : Int) * x1)) + x5))), .inl x4] M (fun v5 M6 => q_lay M6 ∧ q_WP q_Pr d 208 [.inr (.inr 66), .inr (.inl v5)] M6 (fun v7 M8 => q_lay M8 ∧ (q_At q_m212 (q_WP q_Pr d) P 185 [(0, .inr (.inr 66)), (1, .inl x1), (3, .inl x3), (4, .inl x4), (5, .inl x5)] [] M8 c s)))) ∧ (¬ (q_nm M 106 (w32 ((w32 ((2100 : Int) * x1)) + x5))) = (18 : Int) → (((q_nm M 106 (w32 ((w32 ((2100 : Int) * x1)) + x5))) = (19 : Int) → q_WP q_Pr d 211 [.inr (.inr 66), .inl (q_nm M 106 (w32 ((w32 ((2100 : Int) * x1)) + x5))), .inl x4] M (fun v9 M10 => q_lay M10 ∧ q_WP q_Pr d 208 [.inr (.inr 66), .inr (.inl v9)] M10 (fun v11 M12 => q_lay M12 ∧ (q_At q_m212 (q_WP q_Pr d) P 185 [(0, .inr (.inr 66)), (1, .inl x1), (3, .inl x3), (4, .inl x4), (5, .inl x5)] [] M12 c s)))) ∧ (¬ (q_nm M 106 (w32 ((w32 ((2100 : Int) * x1)) + x5))) = (19 : Int) → (((q_nm M 106 (w32 ((w32 ((2100 : Int) * x1)) + x5))) < (7 : Int) → q_WP q_Pr d 209 [.inr (.inr 66), .inl (q_nm M 106 (w32 ((w32 ((2100 : Int) * x1)) + x5)))] M (fun v13 M14 => q_lay M14 ∧ (q_At q_m212 (q_WP q_Pr d) P 185 [(0, .inr (.inr 66)), (1, .inl x1), (3, .inl x3), (4, .inl x4), (5, .inl x5)] [] M14 c s))) ∧ ((7 : Int) ≤ (q_nm M 106 (w32 ((w32 ((2100 : Int) * x1)) + x5))) → (((10 : Int) < (q_nm M 106 (w32 ((w32 ((2100 : Int) * x1)) + x5))) → q_WP q_Pr d 209 [.inr (.inr 66), .inl (q_nm M 106 (w32 ((w32 ((2100 : Int) * x1)) + x5)))] M (fun v15 M16 => q_lay M16 ∧ (q_At q_m212 (q_WP q_Pr d) P 185 [(0, .inr (.inr 66)), (1, .inl x1), (3, .inl x3), (4, .inl x4), (5, .inl x5)] [] M16 c s))) ∧ ((q_nm M 106 (w32 ((w32 ((2100 : Int) * x1)) + x5))) ≤ (10 : Int) → q_WP q_Pr d 211 [.inr (.inr 66), .inl (q_nm M 106 (w32 ((w32 ((2100 : Int) * x1)) + x5))), .inl x4] M (fun v17 M18 => q_lay M18 ∧ q_WP q_Pr d 208 [.inr (.inr 66), .inr (.inl v17)] M18 (fun v19 M20 => q_lay M20 ∧ (q_At q_m212 (q_WP q_Pr d) P 185 [(0, .inr (.inr 66)), (1, .inl x1), (3, .inl x3), (4, .inl x4), (5, .inl x5)] [] M20 c s)))))))))))))) ∧ ((q_nm M 106 (w32 ((w32 ((2100 : Int) * x1)) + x5))) = (16 : Int) → ((0 ≤ (w32 ((q_nm M 66 69) - (1 : Int))) ∧ (w32 ((q_nm M 66 69) - (1 : Int))) < 2200) ∧ ((0 ≤ (w32 ((q_nm M 66 69) - (1 : Int))) ∧ (w32 ((q_nm M 66 69) - (1 : Int))) < 2200) ∧ (∀ M21 : qM, M21 = q_wn M 117 (w32 ((q_nm M 66 69) - (1 : Int))) (w64 ((1 : Int) - (q_nm M 117 (w32 ((q_nm M 66 69) - (1 : Int)))))) → q_lay M21 → (q_At q_m212 (q_WP q_Pr d) P 185 [(0, .inr (.inr 66)), (1, .inl x1), (3, .inl x3), (4, .inl x4), (5, .inl x5)] [] M21 c s))))))) ∧ ((q_nm M 106 (w32 ((w32 ((2100 : Int) * x1)) + x5))) = (17 : Int) → q_WP q_Pr d 208 [.inr (.inr 66), .inr (.inl (1 : Int))] M (fun v22 M23 => q_lay M23 ∧ (q_At q_m212 (q_WP q_Pr d) P 185 [(0, .inr (.inr 66)), (1, .inl x1), (3, .inl x3), (4, .inl x4), (5, .inl x5)] [] M23 c s))))) ∧ ((q_nm M 106 (w32 ((w32 ((2100 : Int) * x1)) + x5))) = (31 : Int) → ((0 ≤ x4 ∧ x4 < 640) ∧ (((q_nm M 115 x4) = 0 → q_WP q_Pr d 208 [.inr (.inr 66), .inr (.inl (0 : Int))] M (fun v24 M25 => q_lay M25 ∧ (q_At q_m212 (q_WP q_Pr d) P 185 [(0, .inr (.inr 66)), (1, .inl x1), (3, .inl x3), (4, .inl x4), (5, .inl x5)] [] M25 c s))) ∧ (¬ (q_nm M 115 x4) = 0 → q_WP q_Pr d 208 [.inr (.inr 66), .inr (.inl (1 : Int))] M (fun v26 M27 => q_lay M27 ∧ (q_At q_m212 (q_WP q_Pr d) P 185 [(0, .inr (.inr 66)), (1, .inl x1), (3, .inl x3), (4, .inl x4), (5, .inl x5)] [] M27 c s)))))))) ∧ ((1000 : Int) ≤ (q_nm M 106 (w32 ((w32 ((2100 : Int) * x1)) + x5))) → q_WP q_Pr d 208 [.inr (.inr 66), .inr (.inl (w32 ((q_nm M 106 (w32 ((w32 ((2100 : Int) * x1)) + x5))) - (1000 : Int))))] M (fun v28 M29 => q_lay M29 ∧ (q_At q_m212 (q_WP q_Pr d) P 185 [(0, .inr (.inr 66)), (1, .inl x1), (3, .inl x3), (4, .inl x4), (5, .inl x5)] [] M29 c s)))))))) : q_At q_m212 (q_WP q_Pr d) P 8 [(0, .inr (.inr 66)), (1, .inl x1), (3, .inl x3), (4, .inl x4), (5, .inl x5)] [] M c s := by
  refine s_212_8 ?_
  rw [lk66 hl, lr66_68 hl, ll117 hl, lk117 hl, lr66_49 hl, ll106 hl, lk106 hl, lr66_64 hl, ll115 hl, lk115 hl]
  refine ⟨?_, ?_⟩
  · replace h := h.1
    intro g
    replace h := h g
    refine ⟨rfl, ?_⟩
    refine ⟨⟨rfl, ⟨by decide, by decide⟩⟩, ?_⟩
    exact h
  · replace h := h.2
    intro g
    replace h := h g
    refine ⟨rfl, ?_⟩
    refine ⟨⟨rfl, h.1⟩, ?_⟩
    replace h := h.2
    refine ⟨?_, ?_⟩
    · replace h := h.1
      intro g
      replace h := h g
      refine ⟨?_, ?_⟩
      · replace h := h.1
        intro g
        replace h := h g
        refine ⟨?_, ?_⟩
        · replace h := h.1
          intro g
          replace h := h g
          refine ⟨?_, ?_⟩
          · replace h := h.1
            intro g
            replace h := h g
            refine ⟨?_, ?_⟩
            · replace h := h.1
              intro g
              replace h := h g
              refine ⟨rfl, ?_⟩
              refine q_WP_mono _ _ _ _ _ _ (fun v1 M2 hh => ?_) h
              obtain ⟨hlM2, h⟩ := hh
              rw [lk66 hlM2]
              refine ⟨rfl, ?_⟩
              refine q_WP_mono _ _ _ _ _ _ (fun v3 M4 hh => ?_) h
              obtain ⟨hlM4, h⟩ := hh
              exact h
            · replace h := h.2
              intro g
              replace h := h g
              refine ⟨?_, ?_⟩
              · replace h := h.1
                intro g
                replace h := h g
                refine ⟨rfl, ?_⟩
                refine q_WP_mono _ _ _ _ _ _ (fun v5 M6 hh => ?_) h
                obtain ⟨hlM6, h⟩ := hh
                rw [lk66 hlM6]
                refine ⟨rfl, ?_⟩
                refine q_WP_mono _ _ _ _ _ _ (fun v7 M8 hh => ?_) h
                obtain ⟨hlM8, h⟩ := hh
                exact h
              · replace h := h.2
                intro g
                replace h := h g
                refine ⟨?_, ?_⟩
                · replace h := h.1
                  intro g
                  replace h := h g
                  refine ⟨rfl, ?_⟩
                  refine q_WP_mono _ _ _ _ _ _ (fun v9 M10 hh => ?_) h
                  obtain ⟨hlM10, h⟩ := hh
                  rw [lk66 hlM10]
                  refine ⟨rfl, ?_⟩
                  refine q_WP_mono _ _ _ _ _ _ (fun v11 M12 hh => ?_) h
                  obtain ⟨hlM12, h⟩ := hh
                  exact h
                · replace h := h.2
                  intro g
                  replace h := h g
                  refine ⟨?_, ?_⟩
                  · replace h := h.1
                    intro g
                    replace h := h g
                    refine ⟨rfl, ?_⟩
                    refine q_WP_mono _ _ _ _ _ _ (fun v13 M14 hh => ?_) h
                    obtain ⟨hlM14, h⟩ := hh
                    exact h
                  · replace h := h.2
                    intro g
                    replace h := h g
                    refine ⟨?_, ?_⟩
                    · replace h := h.1
                      intro g
                      replace h := h g
                      refine ⟨rfl, ?_⟩
                      refine q_WP_mono _ _ _ _ _ _ (fun v15 M16 hh => ?_) h
                      obtain ⟨hlM16, h⟩ := hh
                      exact h
                    · replace h := h.2
                      intro g
                      replace h := h g
                      refine ⟨rfl, ?_⟩
                      refine q_WP_mono _ _ _ _ _ _ (fun v17 M18 hh => ?_) h
                      obtain ⟨hlM18, h⟩ := hh
                      rw [lk66 hlM18]
                      refine ⟨rfl, ?_⟩
                      refine q_WP_mono _ _ _ _ _ _ (fun v19 M20 hh => ?_) h
                      obtain ⟨hlM20, h⟩ := hh
                      exact h
          · replace h := h.2
            intro g
            replace h := h g
            refine ⟨rfl, ?_⟩
            refine ⟨rfl, ?_⟩
            refine ⟨rfl, ?_⟩
            refine ⟨rfl, ?_⟩
            refine ⟨⟨rfl, h.1⟩, ?_⟩
            replace h := h.2
            refine ⟨⟨rfl, h.1⟩, ?_⟩
            replace h := h.2
            intro M21
            have hlM21 : q_lay M21 := q_lay_wn hl
            replace h := h M21 rfl hlM21
            exact h
        · replace h := h.2
          intro g
          replace h := h g
          refine ⟨rfl, ?_⟩
          refine q_WP_mono _ _ _ _ _ _ (fun v22 M23 hh => ?_) h
          obtain ⟨hlM23, h⟩ := hh
          exact h
      · replace h := h.2
        intro g
        replace h := h g
        refine ⟨rfl, ?_⟩
        refine ⟨⟨Or.inr rfl, h.1⟩, ?_⟩
        replace h := h.2
        refine ⟨?_, ?_⟩
        · replace h := h.1
          intro g
          replace h := h g
          refine ⟨rfl, ?_⟩
          refine q_WP_mono _ _ _ _ _ _ (fun v24 M25 hh => ?_) h
          obtain ⟨hlM25, h⟩ := hh
          exact h
        · replace h := h.2
          intro g
          replace h := h g
          refine ⟨rfl, ?_⟩
          refine q_WP_mono _ _ _ _ _ _ (fun v26 M27 hh => ?_) h
          obtain ⟨hlM27, h⟩ := hh
          exact h
    · replace h := h.2
      intro g
      replace h := h g
      refine ⟨rfl, ?_⟩
      refine q_WP_mono _ _ _ _ _ _ (fun v28 M29 hh => ?_) h
      obtain ⟨hlM29, h⟩ := hh
      exact h
theorem t_212_185 {d : Nat} {P : Int → qM → Prop} {x1 x3 x4 x5 : Int} {M : qM} {c s : Nat} (hl : q_lay M) (h : (q_At q_m212 (q_WP q_Pr d) P 8 [(0, .inr (.inr 66)), (1, .inl x1), (3, .inl x3), (4, .inl x4), (5, .inl (w32 (x5 + 1)))] [] M c s)) : q_At q_m212 (q_WP q_Pr d) P 185 [(0, .inr (.inr 66)), (1, .inl x1), (3, .inl x3), (4, .inl x4), (5, .inl x5)] [] M c s := by
  refine s_212_185 ?_
  exact h
theorem t_213_0 {d : Nat} {P : Int → qM → Prop} {x1 x2 : Int} {M : qM} {c s : Nat} (hl : q_lay M) (h : (q_At q_m213 (q_WP q_Pr d) P 2 [(0, .inr (.inr 66)), (1, .inl x1), (2, .inl x2), (3, .inl (0 : Int))] [] M c s)) : q_At q_m213 (q_WP q_Pr d) P 0 [(0, .inr (.inr 66)), (1, .inl x1), (2, .inl x2)] [] M c s := by
  refine s_213_0 ?_
  exact h
theorem t_213_2 {d : Nat} {P : Int → qM → Prop} {x1 x2 x3 : Int} {M : qM} {c s : Nat} (hl : q_lay M) (h : ((0 ≤ x1 ∧ x1 < 6) ∧ (((q_nm M 101 x1) ≤ x3 → (P (0 : Int) M)) ∧ (x3 < (q_nm M 101 x1) → ((0 ≤ (w32 ((w32 ((20 : Int) * x1)) + x3)) ∧ (w32 ((w32 ((20 : Int) * x1)) + x3)) < 120) ∧ ((0 ≤ x2 ∧ x2 < 640) ∧ ((¬ (q_nm M 102 (w32 ((w32 ((20 : Int) * x1)) + x3))) = (q_nm M 108 x2) → (q_At q_m213 (q_WP q_Pr d) P 2 [(0, .inr (.inr 66)), (1, .inl x1), (2, .inl x2), (3, .inl (w32 (x3 + 1)))] [] M c s)) ∧ ((q_nm M 102 (w32 ((w32 ((20 : Int) * x1)) + x3))) = (q_nm M 108 x2) → ((0 ≤ (w32 ((w32 ((20 : Int) * x1)) + x3)) ∧ (w32 ((w32 ((20 : Int) * x1)) + x3)) < 120) ∧ ((0 ≤ (w32 ((w32 ((20 : Int) * x1)) + x3)) ∧ (w32 ((w32 ((20 : Int) * x1)) + x3)) < 120) ∧ q_WP q_Pr d 212 [.inr (.inr 66), .inl x1, .inl (q_nm M 104 (w32 ((w32 ((20 : Int) * x1)) + x3))), .inl (q_nm M 105 (w32 ((w32 ((20 : Int) * x1)) + x3))), .inl x2] M (fun v1 M2 => q_lay M2 ∧ ((¬ (q_lc v1 (1 : Int)) = 0 → (q_At q_m213 (q_WP q_Pr d) P 2 [(0, .inr (.inr 66)), (1, .inl x1), (2, .inl x2), (3, .inl (w32 (x3 + 1)))] [] M2 c s)) ∧ ((q_lc v1 (1 : Int)) = 0 → ((0 ≤ (w32 ((w32 ((20 : Int) * x1)) + x3)) ∧ (w32 ((w32 ((20 : Int) * x1)) + x3)) < 120) ∧ ((0 ≤ (w32 ((w32 ((20 : Int) * x1)) + x3)) ∧ (w32 ((w32 ((20 : Int) * x1)) + x3)) < 120) ∧ q_WP q_Pr d 212 [.inr (.inr 66), .inl x1, .inl (q_nm M2 103 (w32 ((w32 ((20 : Int) * x1)) + x3))), .inl (q_nm M2 104 (w32 ((w32 ((20 : Int) * x1)) + x3))), .inl x2] M2 (fun v3 M4 => q_lay M4 ∧ (P v3 M4))))))))))))))))) : q_At q_m213 (q_WP q_Pr d) P 2 [(0, .inr (.inr 66)), (1, .inl x1), (2, .inl x2), (3, .inl x3)] [] M c s := by
  refine s_213_2 ?_
  rw [lk66 hl, lr66_44 hl, ll101 hl, lk101 hl, lr66_45 hl, ll102 hl, lk102 hl, lr66_57 hl, ll108 hl, lk108 hl, lr66_47 hl, ll104 hl, lk104 hl, lr66_48 hl, ll105 hl, lk105 hl]
  refine ⟨rfl, ?_⟩
  refine ⟨⟨rfl, h.1⟩, ?_⟩
  replace h := h.2
  refine ⟨?_, ?_⟩
  · replace h := h.1
    intro g
    replace h := h g
    exact h
  · replace h := h.2
    intro g
    replace h := h g
    refine ⟨rfl, ?_⟩
    refine ⟨⟨rfl, h.1⟩, ?_⟩
    replace h := h.2
    refine ⟨rfl, ?_⟩
    refine ⟨⟨rfl, h.1⟩, ?_⟩
    replace h := h.2
    refine ⟨?_, ?_⟩
    · replace h := h.1
      intro g
      replace h := h g
      exact h
    · replace h := h.2
      intro g
      replace h := h g
      refine ⟨rfl, ?_⟩
      refine ⟨⟨rfl, h.1⟩, ?_⟩
      replace h := h.2
      refine ⟨rfl, ?_⟩
      refine ⟨⟨rfl, h.1⟩, ?_⟩
      replace h := h.2
      refine ⟨rfl, ?_⟩
      refine q_WP_mono _ _ _ _ _ _ (fun v1 M2 hh => ?_) h
      obtain ⟨hlM2, h⟩ := hh
      rw [lk66 hlM2, lr66_46 hlM2, ll103 hlM2, lk103 hlM2, lr66_47 hlM2, ll104 hlM2, lk104 hlM2]
      refine ⟨?_, ?_⟩
      · replace h := h.1
        intro g
        replace h := h g
        exact h
      · replace h := h.2
        intro g
        replace h := h g
        refine ⟨rfl, ?_⟩
        refine ⟨⟨rfl, h.1⟩, ?_⟩
        replace h := h.2
        refine ⟨rfl, ?_⟩
        refine ⟨⟨rfl, h.1⟩, ?_⟩
        replace h := h.2
        refine ⟨rfl, ?_⟩
        refine q_WP_mono _ _ _ _ _ _ (fun v3 M4 hh => ?_) h
        obtain ⟨hlM4, h⟩ := hh
        exact h
theorem t_214_0 {d : Nat} {P : Int → qM → Prop} {x1 : Int} {M : qM} {c s : Nat} (hl : q_lay M) (h : ((¬ (q_nm M 100 (4 : Int)) = 0 → q_WP q_Pr d 213 [.inr (.inr 66), .inl (4 : Int), .inl x1] M (fun v1 M2 => q_lay M2 ∧ ((0 ≤ (q_lc v1 (0 : Int)) → (((q_lc v1 (100 : Int)) ≤ 0 → (P (w32 v1) M2)) ∧ (0 < (q_lc v1 (100 : Int)) → (P (100 : Int) M2)))) ∧ ((q_lc v1 (0 : Int)) < 0 → (P (0 : Int) M2))))) ∧ ((q_nm M 100 (4 : Int)) = 0 → (P (100 : Int) M)))) : q_At q_m214 (q_WP q_Pr d) P 0 [(0, .inr (.inr 66)), (1, .inl x1)] [] M c s := by
  refine s_214_0 ?_
  rw [lk66 hl, lr66_43 hl, ll100 hl, lk100 hl]
  refine ⟨rfl, ?_⟩
  refine ⟨⟨Or.inr rfl, ⟨by decide, by decide⟩⟩, ?_⟩
  refine ⟨?_, ?_⟩
  · replace h := h.1
    intro g
    replace h := h g
    refine ⟨rfl, ?_⟩
    refine q_WP_mono _ _ _ _ _ _ (fun v1 M2 hh => ?_) h
    obtain ⟨hlM2, h⟩ := hh
    refine ⟨?_, ?_⟩
    · replace h := h.1
      intro g
      replace h := h g
      refine ⟨?_, ?_⟩
      · replace h := h.1
        intro g
        replace h := h g
        exact h
      · replace h := h.2
        intro g
        replace h := h g
        exact h
    · replace h := h.2
      intro g
      replace h := h g
      exact h
  · replace h := h.2
    intro g
    replace h := h g
    exact h
theorem t_215_0 {d : Nat} {P : Int → qM → Prop} {x1 x2 : Int} {M : qM} {c s : Nat} (hl : q_lay M) (h : q_WP q_Pr d 201 [.inr (.inr 66), .inl x1] M (fun v1 M2 => q_lay M2 ∧ (q_At q_m215 (q_WP q_Pr d) P 10 [(0, .inr (.inr 66)), (2, .inl x2), (3, .inl (0 : Int)), (4, .inl (0 : Int))] [] M2 c s))) : q_At q_m215 (q_WP q_Pr d) P 0 [(0, .inr (.inr 66)), (1, .inl x1), (2, .inl x2)] [] M c s := by
  refine s_215_0 ?_
  rw [lk66 hl]
  refine ⟨rfl, ?_⟩
  refine q_WP_mono _ _ _ _ _ _ (fun v1 M2 hh => ?_) h
  obtain ⟨hlM2, h⟩ := hh
  exact h
theorem t_215_10 {d : Nat} {P : Int → qM → Prop} {x2 x3 x4 : Int} {M : qM} {c s : Nat} (hl : q_lay M) (h : (((q_nm M 66 55) ≤ x4 → (P x3 M)) ∧ (x4 < (q_nm M 66 55) → q_WP q_Pr d 213 [.inr (.inr 66), .inl x2, .inl x4] M (fun v1 M2 => q_lay M2 ∧ ((0 ≤ (q_lc v1 (0 : Int)) → (((q_lc v1 (1000 : Int)) ≤ 0 → ((0 ≤ x4 ∧ x4 < 640) ∧ (∀ M3 : qM, M3 = q_wn M2 118 x4 (w32 v1) → q_lay M3 → ((0 ≤ x4 ∧ x4 < 640) ∧ (q_At q_m215 (q_WP q_Pr d) P 10 [(0, .inr (.inr 66)), (2, .inl x2), (3, .inl (w32 (x3 + (q_nm M3 118 x4)))), (4, .inl (w32 (x4 + 1)))] [] M3 c s))))) ∧ (0 < (q_lc v1 (1000 : Int)) → ((0 ≤ x4 ∧ x4 < 640) ∧ (∀ M4 : qM, M4 = q_wn M2 118 x4 (1000 : Int) → q_lay M4 → ((0 ≤ x4 ∧ x4 < 640) ∧ (q_At q_m215 (q_WP q_Pr d) P 10 [(0, .inr (.inr 66)), (2, .inl x2), (3, .inl (w32 (x3 + (q_nm M4 118 x4)))), (4, .inl (w32 (x4 + 1)))] [] M4 c s))))))) ∧ ((q_lc v1 (0 : Int)) < 0 → ((0 ≤ x4 ∧ x4 < 640) ∧ (∀ M5 : qM, M5 = q_wn M2 118 x4 (0 : Int) → q_lay M5 → ((0 ≤ x4 ∧ x4 < 640) ∧ (q_At q_m215 (q_WP q_Pr d) P 10 [(0, .inr (.inr 66)), (2, .inl x2), (3, .inl (w32 (x3 + (q_nm M5 118 x4)))), (4, .inl (w32 (x4 + 1)))] [] M5 c s)))))))))) : q_At q_m215 (q_WP q_Pr d) P 10 [(0, .inr (.inr 66)), (2, .inl x2), (3, .inl x3), (4, .inl x4)] [] M c s := by
  refine s_215_10 ?_
  rw [lk66 hl]
  refine ⟨rfl, ?_⟩
  refine ⟨?_, ?_⟩
  · replace h := h.1
    intro g
    replace h := h g
    exact h
  · replace h := h.2
    intro g
    replace h := h g
    refine ⟨rfl, ?_⟩
    refine q_WP_mono _ _ _ _ _ _ (fun v1 M2 hh => ?_) h
    obtain ⟨hlM2, h⟩ := hh
    rw [lk66 hlM2, lr66_70 hlM2, ll118 hlM2, lk118 hlM2]
    refine ⟨rfl, ?_⟩
    refine ⟨?_, ?_⟩
    · replace h := h.1
      intro g
      replace h := h g
      refine ⟨?_, ?_⟩
      · replace h := h.1
        intro g
        replace h := h g
        refine ⟨⟨⟨by decide, rfl⟩, h.1⟩, ?_⟩
        replace h := h.2
        intro M3
        have hlM3 : q_lay M3 := q_lay_wn hlM2
        replace h := h M3 rfl hlM3
        rw [lk66 hlM3, lr66_70 hlM3, ll118 hlM3, lk118 hlM3]
        refine ⟨rfl, ?_⟩
        refine ⟨⟨rfl, h.1⟩, ?_⟩
        replace h := h.2
        exact h
      · replace h := h.2
        intro g
        replace h := h g
        refine ⟨⟨⟨by decide, rfl⟩, h.1⟩, ?_⟩
        replace h := h.2
        intro M4
        have hlM4 : q_lay M4 := q_lay_wn hlM2
        replace h := h M4 rfl hlM4
        rw [lk66 hlM4, lr66_70 hlM4, ll118 hlM4, lk118 hlM4]
        refine ⟨rfl, ?_⟩
        refine ⟨⟨rfl, h.1⟩, ?_⟩
        replace h := h.2
        exact h
    · replace h := h.2
      intro g
      replace h := h g
      refine ⟨⟨⟨by decide, rfl⟩, h.1⟩, ?_⟩
      replace h := h.2
      intro M5
      have hlM5 : q_lay M5 := q_lay_wn hlM2
      replace h := h M5 rfl hlM5
      rw [lk66 hlM5, lr66_70 hlM5, ll118 hlM5, lk118 hlM5]
      refine ⟨rfl, ?_⟩
      refine ⟨⟨rfl, h.1⟩, ?_⟩
      replace h := h.2
      exact h
end
