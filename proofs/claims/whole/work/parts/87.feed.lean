section
theorem r_147x {d : Nat} {P : Int → qM → Prop} {M : qM} {x1 x2 x3 x4 x5 n : Int} {c s : Nat} (k k' w sh : Int) (hl : q_lay M) (hn : q_nm M 66 1 = n) (h0 : 0 ≤ n) (h1 : n < 2100) (hk : 0 ≤ k ∧ k < 20) (hk' : k' = k + 1) (hw : w = if k < 4 then x1 else if k < 8 then x2 else if k < 12 then x3 else if k < 16 then x4 else x5) (hsh : sh = 8 * (3 - k % 4))
    (K : ∀ M', M' = q_apl 67 66 1 [q_and (q_shr w sh) 255] n M → q_lay M' → q_nm M' 66 1 = n + 1 → q_At q_m147 (q_WP q_Pr d) P 18 [(0, .inr (.inr 66)), (1, .inl x1), (2, .inl x2), (3, .inl x3), (4, .inl x4), (5, .inl x5), (6, .inl k')] [] M' c s) : q_At q_m147 (q_WP q_Pr d) P 18 [(0, .inr (.inr 66)), (1, .inl x1), (2, .inl x2), (3, .inl x3), (4, .inl x4), (5, .inl x5), (6, .inl k)] [] M c s := by
  refine r_147s hl hn h0 h1 hk hw hsh ?_
  rw [← hk']
  exact K _ rfl hl (by rw [q_wn_nm, if_pos ⟨rfl, rfl⟩])
end
