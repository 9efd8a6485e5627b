section
theorem r_147 {d : Nat} {P : Int → qM → Prop} {M : qM} {x1 x2 x3 x4 x5 n : Int} (hl : q_lay M) (hn : q_nm M 66 1 = n) (h0 : 0 ≤ n) (h1 : n + 20 ≤ 2100) (hP : P (n + 20) (q_apl 67 66 1 (q_z4 x1 ++ (q_z4 x2 ++ (q_z4 x3 ++ (q_z4 x4 ++ q_z4 x5)))) n M)) : q_WP q_Pr (d + 1) 147 [.inr (.inr 66), .inl x1, .inl x2, .inl x3, .inl x4, .inl x5] M P := by
  refine q_enter (s_147_0 ?_)
  have e0 : w32 (q_nm M 66 1 + 20) = n + 20 := by rw [hn]; exact w32_id (by omega) (by omega)
  refine ⟨lk66 hl, fun _ => ?_, fun g => absurd g (by omega)⟩
  refine r_147q 0 4 x1 hl hn h0 (by omega) (Or.inl ⟨rfl, rfl⟩) rfl fun M1 e1 l1 n1 => ?_
  refine r_147q 4 8 x2 l1 n1 (by omega) (by omega) (Or.inr (Or.inl ⟨rfl, rfl⟩)) rfl fun M2 e2 l2 n2 => ?_
  refine r_147q 8 12 x3 l2 n2 (by omega) (by omega) (Or.inr (Or.inr (Or.inl ⟨rfl, rfl⟩))) rfl fun M3 e3 l3 n3 => ?_
  refine r_147q 12 16 x4 l3 n3 (by omega) (by omega) (Or.inr (Or.inr (Or.inr (Or.inl ⟨rfl, rfl⟩)))) rfl fun M4 e4 l4 n4 => ?_
  refine r_147q 16 20 x5 l4 n4 (by omega) (by omega) (Or.inr (Or.inr (Or.inr (Or.inr ⟨rfl, rfl⟩)))) rfl fun M5 e5 l5 n5 => ?_
  refine s_147_18 ⟨fun _ => ⟨lk66 l5, ?_⟩, fun g => absurd g (by decide)⟩
  have e : q_apl 67 66 1 (q_z4 x1 ++ (q_z4 x2 ++ (q_z4 x3 ++ (q_z4 x4 ++ q_z4 x5)))) n M = M5 := by
    rw [q_apl_app, q_apl_app, q_apl_app, q_apl_app, e5, e4, e3, e2, e1]
    rfl
  rw [e] at hP
  rw [n5, show n + 4 + 4 + 4 + 4 + 4 = n + 20 by omega]
  exact hP
end
