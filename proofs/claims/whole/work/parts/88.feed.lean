section
def q_z4 (x : Int) : List Int := [q_and (q_shr x 24) 255, q_and (q_shr x 16) 255, q_and (q_shr x 8) 255, q_and (q_shr x 0) 255]
theorem r_147q {d : Nat} {P : Int → qM → Prop} {M : qM} {x1 x2 x3 x4 x5 n : Int} {c s : Nat} (k k' w : Int) (hl : q_lay M) (hn : q_nm M 66 1 = n) (h0 : 0 ≤ n) (h1 : n + 4 ≤ 2100) (hk : k = 0 ∧ w = x1 ∨ k = 4 ∧ w = x2 ∨ k = 8 ∧ w = x3 ∨ k = 12 ∧ w = x4 ∨ k = 16 ∧ w = x5) (hk' : k' = k + 4)
    (K : ∀ M', M' = q_apl 67 66 1 (q_z4 w) n M → q_lay M' → q_nm M' 66 1 = n + 4 → q_At q_m147 (q_WP q_Pr d) P 18 [(0, .inr (.inr 66)), (1, .inl x1), (2, .inl x2), (3, .inl x3), (4, .inl x4), (5, .inl x5), (6, .inl k')] [] M' c s) : q_At q_m147 (q_WP q_Pr d) P 18 [(0, .inr (.inr 66)), (1, .inl x1), (2, .inl x2), (3, .inl x3), (4, .inl x4), (5, .inl x5), (6, .inl k)] [] M c s := by
  have hw : ∀ j : Int, 0 ≤ j → j < 4 → w = (if k + j < 4 then x1 else if k + j < 8 then x2 else if k + j < 12 then x3 else if k + j < 16 then x4 else x5) := by
    intro j j0 j1
    rcases hk with ⟨rfl, rfl⟩ | ⟨rfl, rfl⟩ | ⟨rfl, rfl⟩ | ⟨rfl, rfl⟩ | ⟨rfl, rfl⟩
    · rw [if_pos (by omega)]
    · rw [if_neg (by omega), if_pos (by omega)]
    · rw [if_neg (by omega), if_neg (by omega), if_pos (by omega)]
    · rw [if_neg (by omega), if_neg (by omega), if_neg (by omega), if_pos (by omega)]
    · rw [if_neg (by omega), if_neg (by omega), if_neg (by omega), if_neg (by omega)]
  have k0 : 0 ≤ k ∧ k ≤ 16 ∧ k % 4 = 0 := by rcases hk with ⟨rfl, _⟩ | ⟨rfl, _⟩ | ⟨rfl, _⟩ | ⟨rfl, _⟩ | ⟨rfl, _⟩ <;> decide
  clear hk
  have w0 := hw 0 (by decide) (by decide)
  rw [Int.add_zero] at w0
  refine r_147x k (k + 1) w 24 hl hn (by omega) (by omega) (by omega) rfl w0 (by omega) fun M1 e1 l1 n1 => ?_
  refine r_147x (k + 1) (k + 2) w 16 l1 n1 (by omega) (by omega) (by omega) (by omega) (hw 1 (by decide) (by decide)) (by omega) fun M2 e2 l2 n2 => ?_
  refine r_147x (k + 2) (k + 3) w 8 l2 n2 (by omega) (by omega) (by omega) (by omega) (hw 2 (by decide) (by decide)) (by omega) fun M3 e3 l3 n3 => ?_
  refine r_147x (k + 3) k' w 0 l3 n3 (by omega) (by omega) (by omega) (by omega) (hw 3 (by decide) (by decide)) (by omega) fun M4 e4 l4 n4 => ?_
  exact K M4 (by rw [e4, e3, e2, e1]; rfl) l4 (by omega)
end
