section
theorem WG_K {W : qW} {SO : Int → Option (List qS)} {fk fp : Int} (g : WG W) : WG (w_setK W SO fk fp) := ⟨G_T_nil, g.2⟩
theorem WR_K {W : qW} {SO : Int → Option (List qS)} {fk fp : Int} {M M' : qM} (h : WR W M) (k : ∀ a j, (92 ≤ a ∧ a ≤ 99) ∨ (108 ≤ a ∧ a ≤ 125) ∨ (a = 66 ∧ (j = 33 ∨ j = 40 ∨ j = 55 ∨ j = 56 ∨ j = 67 ∨ j = 71 ∨ j = 73 ∨ j = 81)) → q_nm M' a j = q_nm M a j) (h1 : q_nm M' 66 1 = 0) (h7 : q_nm M' 66 7 = fk) (h8 : q_nm M' 66 8 = fp) (hS : ∀ x, 0 ≤ x → x < 5 → R_so M' x (SO x)) : WR (w_setK W SO fk fp) M' := by
  obtain ⟨_, h2, ⟨h3, h4, h5⟩, _, _, s8, h9, h10⟩ := h
  refine ⟨⟨h1, q_L_nil⟩, R_W_fr h2 (k _ _ (by omega)) (fun a j _ _ => k _ _ (by omega)), ⟨(k _ _ (by omega)).trans h3, fun r a b => R_row_fr (h4 r a b) (fun a j _ _ => k _ _ (by omega)), ?_⟩, hS, ⟨h7, h8⟩, ⟨(k _ _ (by omega)).trans s8.1, q_L_fr s8.2 (fun j _ _ => k _ _ (by omega))⟩, R_N_fr h9 (k _ _ (by omega)) (fun a j _ _ => k _ _ (by omega)), R_P_fr h10 (k _ _ (by omega)) (fun j => k _ _ (by omega))⟩
  have u1 : q_nm M' 66 56 = q_nm M 66 56 := k _ _ (by omega)
  have u2 : q_nm M' 66 67 = q_nm M 66 67 := k _ _ (by omega)
  show R_Y M' (w_nw W) (w_nr W) (w_WL W) (w_WS W) (w_WE W) (w_RL W)
  unfold R_Y
  rw [u1, u2]
  refine ⟨h5.1, fun a b => ⟨(k _ _ (by omega)).trans (h5.2 a b).1, fun i hi => ?_⟩⟩
  obtain ⟨⟨q1, q2, q3⟩, q4, q5, q6, q7, q8⟩ := (h5.2 a b).2 i hi
  refine ⟨⟨(k _ _ (by omega)).trans q1, (k _ _ (by omega)).trans q2, (k _ _ (by omega)).trans q3⟩, (k _ _ (by omega)).trans q4, q_L_fr q5 (fun j _ _ => k _ _ (by omega)), (k _ _ (by omega)).trans q6, (k _ _ (by omega)).trans q7, ?_⟩
  rw [k _ _ (by omega)]; exact q8
end
