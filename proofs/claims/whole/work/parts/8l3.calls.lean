section
theorem G_S_of {tp : List Int} (h : okR tp 0 tp.length) : G_S tp := by
  have h1 := h.1
  refine ⟨by omega, fun b hb => ?_⟩
  rcases List.getElem_of_mem hb with ⟨i, hi, e⟩
  have := h.2 i (by omega) (by omega)
  rwa [tb_in (by omega) (by omega), show ((i : Int)).toNat = i by omega, getD_el hi, e] at this
theorem G_T_nil : G_T [] := ⟨by decide, fun b hb => absurd hb (List.not_mem_nil)⟩
theorem ok_hear' {L : Nat} {X : Int → Int} {D : Nat} : q_ok L X (INV L X) (D + 30) 110 221 [] := by
  refine q_okQ (fun W => cif (okR (w_tp W) 0 (w_tp W).length) 1 0) (fun W => cif (okR (w_tp W) 0 (w_tp W).length) (w_setS (w_setT W []) (w_tp W)) (w_setT W [])) (fun W g => ?_) (fun W M hl g h => ?_) (fun W M hl g h => ?_)
  · by_cases c : okR (w_tp W) 0 (w_tp W).length
    · rw [cif_pos c]; exact ⟨G_T_nil, g.2.1, g.2.2.1, G_S_of c, g.2.2.2.2⟩
    · rw [cif_neg c]; exact ⟨G_T_nil, g.2⟩
  · refine c_110 hl h.1 g.1 (fun c M' f1 c1 c2 => ?_) (fun c M' f1 c2 => ?_)
    · rw [cif_pos c, cif_pos c]
      refine ⟨rfl, kR_fr hl (fr_mono f1 (fun a j q => by unfold Zc; omega)), ?_⟩
      have k : ∀ a j, a ≠ 1 → a ≠ 19 → a ≠ 20 → q_nm M' a j = q_nm M a j := fun a j x y z => f1.2 a j (by dsimp only; omega)
      have r := RRSS h.2.2.1 h.2.2.2.1 f1 (fun a j w => by omega)
      exact ⟨C_T_nil c2, C_W_fr h.2.1 (fun a j _ _ => k _ _ (by omega) (by omega) (by omega)), r.1, r.2, ⟨(k _ _ (by omega) (by omega) (by omega)).trans h.2.2.2.2.1.1, (k _ _ (by omega) (by omega) (by omega)).trans h.2.2.2.2.1.2⟩, c1, C_N_fr g.2.2.2.2.1.1.2 h.2.2.2.2.2.2.1 (fun a j _ _ => k _ _ (by omega) (by omega) (by omega)), C_P_fr h.2.2.2.2.2.2.2 (k _ _ (by omega) (by omega) (by omega)) (fun j => k _ _ (by omega) (by omega) (by omega))⟩
    · rw [cif_neg c, cif_neg c]
      exact ⟨rfl, kR_fr hl (fr_mono f1 (fun a j q => by unfold Zc; omega)), WC_T g h f1 (fun a j q => Or.inl q.1) (C_T_nil c2)⟩
  · refine r_221 hl h.1 g.1 (fun c M' f1 c1 c2 => ?_) (fun c M' f1 c2 => ?_)
    · rw [cif_pos c, cif_pos c]
      refine ⟨rfl, fr_mono f1 (fun a j q => by unfold Zr; omega), ?_⟩
      have k : ∀ a j, ¬ ((a = 66 ∧ (j = 1 ∨ j = 71)) ∨ a = 119) → q_nm M' a j = q_nm M a j := fun a j x => f1.2 a j x
      have p := WR_part h (fun a j q => k a j (by omega))
      exact ⟨R_T_nil c2, p.1, p.2.1, p.2.2.1, p.2.2.2, c1, R_N_fr h.2.2.2.2.2.2.1 (k _ _ (by omega)) (fun a j _ _ => k _ _ (by omega)), R_P_fr h.2.2.2.2.2.2.2 (k _ _ (by omega)) (fun j => k _ _ (by omega))⟩
    · rw [cif_neg c, cif_neg c]
      exact ⟨rfl, fr_mono f1 (fun a j q => by unfold Zr; omega), WR_T h f1 (fun a j q => Or.inl q) (R_T_nil c2)⟩
theorem ok_on' {L : Nat} {X : Int → Int} {D : Nat} : q_ok L X (INV L X) (D + 30) 133 254 [] := by
  refine q_okQ (fun W => cif (sound (w_nr W) (w_tp W)) 1 0) (fun W => cif (sound (w_nr W) (w_tp W)) (w_setN (w_setT W []) (tb (w_tp W) 0) (sNR (w_tp W)) (sNL (w_tp W))) (w_setT W [])) (fun W g => ?_) (fun W M hl g h => ?_) (fun W M hl g h => ?_)
  · by_cases c : sound (w_nr W) (w_tp W)
    · rw [cif_pos c]; exact ⟨G_T_nil, g.2.1, g.2.2.1, g.2.2.2.1, sound_N g.1 c, g.2.2.2.2.2⟩
    · rw [cif_neg c]; exact ⟨G_T_nil, g.2⟩
  · refine c_133 hl h.1 g.1 h.2.2.1.1 g.2.2.1.1 (fun c M' f1 c1 c2 => ?_) (fun c M' f1 c2 => ?_)
    · rw [cif_pos c, cif_pos c]
      refine ⟨rfl, kR_fr hl (fr_mono f1 (fun a j q => by unfold Zc; omega)), ?_⟩
      have k : ∀ a j, a ≠ 1 → ¬ (21 ≤ a ∧ a ≤ 63) → q_nm M' a j = q_nm M a j := fun a j x y => f1.2 a j (by dsimp only; omega)
      have r := RRSS h.2.2.1 h.2.2.2.1 f1 (fun a j w => by omega)
      exact ⟨C_T_nil c2, C_W_fr h.2.1 (fun a j _ _ => k _ _ (by omega) (by omega)), r.1, r.2, ⟨(k _ _ (by omega) (by omega)).trans h.2.2.2.2.1.1, (k _ _ (by omega) (by omega)).trans h.2.2.2.2.1.2⟩, C_Sp_fr h.2.2.2.2.2.1 (k _ _ (by omega) (by omega)) (fun j => k _ _ (by omega) (by omega)), c1, C_P_fr h.2.2.2.2.2.2.2 (k _ _ (by omega) (by omega)) (fun j => k _ _ (by omega) (by omega))⟩
    · rw [cif_neg c, cif_neg c]
      exact ⟨rfl, kR_fr hl (fr_mono f1 (fun a j q => by unfold Zc; omega)), WC_T g h f1 (fun a j q => Or.inl q.1) (C_T_nil c2)⟩
  · refine r_254 hl h.1 g.1 h.2.2.1.1 g.2.2.1.1 (fun c M' f1 c1 c2 => ?_) (fun c M' f1 c2 => ?_)
    · rw [cif_pos c, cif_pos c]
      refine ⟨rfl, fr_mono f1 (fun a j q => by unfold Zr; omega), ?_⟩
      have k : ∀ a j, ¬ ((120 ≤ a ∧ a ≤ 122) ∨ (a = 66 ∧ (j = 73 ∨ j = 1))) → q_nm M' a j = q_nm M a j := fun a j x => f1.2 a j x
      have p := WR_part h (fun a j q => k a j (by omega))
      exact ⟨R_T_nil c2, p.1, p.2.1, p.2.2.1, p.2.2.2, ⟨(k _ _ (by omega)).trans h.2.2.2.2.2.1.1, q_L_fr h.2.2.2.2.2.1.2 (fun j _ _ => k _ _ (by omega))⟩, c1, R_P_fr h.2.2.2.2.2.2.2 (k _ _ (by omega)) (fun j => k _ _ (by omega))⟩
    · rw [cif_neg c, cif_neg c]
      exact ⟨rfl, fr_mono f1 (fun a j q => by unfold Zr; omega), WR_T h f1 (fun a j q => Or.inl q) (R_T_nil c2)⟩
abbrev w_addW (W : qW) (so se oo : Int) : qW := ([], (w_nw W + 1, fup (w_WL W) (w_nw W) (w_tp W), fup (w_WS W) (w_nw W) so, fup (w_WE W) (w_nw W) se, fup (w_WO W) (w_nw W) oo), W.2.2)
/-- rows when a word has come: none is ready -/
theorem C_RR_W {W W' : qW} {M M' : qM} {Z : Int → Int → Prop} (h : C_RR W M) (hl : q_lay M) (f : fr Z M M') (z : ∀ a j, Z a j → a < 126 ∧ ¬ (a = 0 ∧ j = 3)) (en : w_nw W' = w_nw W + 1) (er : W'.2.2 = W.2.2) : C_RR W' M' := by
  have k : ∀ a j, 126 ≤ a → q_nm M' a j = q_nm M a j := fun a j x => f.2 a j (fun w => by have := (z a j w).1; omega)
  have e1 : w_nr W' = w_nr W := by show W'.2.2.1.1 = W.2.2.1.1; rw [er]
  have e2 : w_RL W' = w_RL W := by show W'.2.2.1.2 = W.2.2.1.2; rw [er]
  have e3 : w_SO W' = w_SO W := by show W'.2.2.2.1 = W.2.2.2.1; rw [er]
  obtain ⟨h1, h2, h3, h4⟩ := h
  unfold C_RR
  rw [e1, e2, e3]
  refine ⟨(f.2 _ _ (fun w => (z _ _ w).2 ⟨rfl, rfl⟩)).trans h1, fun r a b => ?_, fun r r' a b c => ?_, fun r j a b c d => ?_⟩
  · rw [fr_rf f]
    obtain ⟨q1, q2, q3, q4⟩ := h2 r a b
    have ge := q_ml_ge q1.1
    have e : q_nm M' (q_rf M 13 r) 2 = q_nm M (q_rf M 13 r) 2 := k _ _ (by omega)
    refine ⟨C_M_fr q1 f (fun j w => by have := (z _ _ w).1; omega), by rw [fr_top f]; exact q2, by rw [e, en]; omega, fun w => ?_⟩
    rw [e, en] at w; omega
  · rw [fr_rf f, fr_rf f]; exact h3 r r' a b c
  · rw [fr_rf f, fr_rf f]; exact h4 r j a b c d
theorem G_L_up {nw : Int} {ln : List Int} (g : G_L nw ln) : G_L (nw + 1) ln := ⟨g.1, fun w hw => by have := g.2 w hw; omega⟩
theorem ok_word' {L : Nat} {X : Int → Int} {D : Nat} : ∀ so se oo : Int, q_i32 so → q_i32 se → q_i32 oo → q_ok L X (INV L X) (D + 30) 99 162 [.inl so, .inl se, .inl oo] := fun so se oo _ _ _ => by
  refine q_okQ (fun W => cif (okW (w_nw W) (w_WL W) (w_tp W) so se oo) (w_nw W) (-1)) (fun W => cif (okW (w_nw W) (w_WL W) (w_tp W) so se oo) (w_addW W so se oo) (w_setT W [])) (fun W g => ?_) (fun W M hl g h => ?_) (fun W M hl g h => ?_)
  · by_cases c : okW (w_nw W) (w_WL W) (w_tp W) so se oo
    · rw [cif_pos c]
      have gw := g.2.1
      have gn := gw.1
      have c30 := c.2.1
      refine ⟨G_T_nil, ⟨?_, fun w x y => ?_, fun w v x y x' y' e => ?_⟩, ⟨g.2.2.1.1, fun r x y => G_L_up (g.2.2.1.2 r x y)⟩, g.2.2.2⟩
      · show 0 ≤ w_nw W + 1 ∧ w_nw W + 1 ≤ 30; omega
      · have y1 : w < w_nw W + 1 := y
        show okw (fup (w_WL W) (w_nw W) (w_tp W) w) ∧ (0 ≤ fup (w_WS W) (w_nw W) so w ∧ fup (w_WS W) (w_nw W) so w ≤ 4) ∧ (0 ≤ fup (w_WE W) (w_nw W) se w ∧ fup (w_WE W) (w_nw W) se w ≤ 9) ∧ 1 ≤ fup (w_WO W) (w_nw W) oo w ∧ fup (w_WO W) (w_nw W) oo w ≤ 99
        by_cases e : w = w_nw W
        · rw [e, fup_eq, fup_eq, fup_eq, fup_eq]; exact ⟨c.2.2.1, c.1⟩
        · rw [fup_ne e, fup_ne e, fup_ne e, fup_ne e]; exact gw.2.1 w x (by omega)
      · have y1 : w < w_nw W + 1 := y
        have y2 : v < w_nw W + 1 := y'
        have e' : fup (w_WL W) (w_nw W) (w_tp W) w = fup (w_WL W) (w_nw W) (w_tp W) v := e
        by_cases e1 : w = w_nw W <;> by_cases e2 : v = w_nw W
        · omega
        · rw [e1, fup_eq, fup_ne e2] at e'
          exact absurd e'.symm (c.2.2.2 v x' (by omega))
        · rw [e2, fup_eq, fup_ne e1] at e'
          exact absurd e' (c.2.2.2 w x (by omega))
        · rw [fup_ne e1, fup_ne e2] at e'
          exact gw.2.2 w v x (by omega) x' (by omega) e'
    · rw [cif_neg c]; exact ⟨G_T_nil, g.2⟩
  · refine c_99 hl h.1 g.1 h.2.1 g.2.1 (fun c M' f1 c1 c2 => ?_) (fun c M' f1 c1 c2 => ?_)
    · rw [cif_pos c, cif_pos c]
      refine ⟨rfl, kR_fr hl (fr_mono f1 (fun a j q => by unfold Zc; omega)), ?_⟩
      have k : ∀ a j, a ≠ 1 → ¬ (3 ≤ a ∧ a ≤ 11) → q_nm M' a j = q_nm M a j := fun a j x y => f1.2 a j (by dsimp only; omega)
      have r := RRSS h.2.2.1 h.2.2.2.1 f1 (fun a j w => by omega)
      exact ⟨C_T_nil c2, c1, C_RR_W h.2.2.1 hl f1 (fun a j w => by omega) rfl rfl, r.2, ⟨(k _ _ (by omega) (by omega)).trans h.2.2.2.2.1.1, (k _ _ (by omega) (by omega)).trans h.2.2.2.2.1.2⟩, C_Sp_fr h.2.2.2.2.2.1 (k _ _ (by omega) (by omega)) (fun j => k _ _ (by omega) (by omega)), C_N_fr g.2.2.2.2.1.1.2 h.2.2.2.2.2.2.1 (fun a j _ _ => k _ _ (by omega) (by omega)), C_P_fr h.2.2.2.2.2.2.2 (k _ _ (by omega) (by omega)) (fun j => k _ _ (by omega) (by omega))⟩
    · rw [cif_neg c, cif_neg c]
      refine ⟨rfl, kR_fr hl (fr_mono f1 (fun a j q => by unfold Zc; omega)), ?_⟩
      have k : ∀ a j, a ≠ 1 → ¬ (3 ≤ a ∧ a ≤ 11) → q_nm M' a j = q_nm M a j := fun a j x y => f1.2 a j (by dsimp only; omega)
      have r := RRSS h.2.2.1 h.2.2.2.1 f1 (fun a j w => by omega)
      exact ⟨C_T_nil c2, c1, r.1, r.2, ⟨(k _ _ (by omega) (by omega)).trans h.2.2.2.2.1.1, (k _ _ (by omega) (by omega)).trans h.2.2.2.2.1.2⟩, C_Sp_fr h.2.2.2.2.2.1 (k _ _ (by omega) (by omega)) (fun j => k _ _ (by omega) (by omega)), C_N_fr g.2.2.2.2.1.1.2 h.2.2.2.2.2.2.1 (fun a j _ _ => k _ _ (by omega) (by omega)), C_P_fr h.2.2.2.2.2.2.2 (k _ _ (by omega) (by omega)) (fun j => k _ _ (by omega) (by omega))⟩
  · refine r_162 hl h.1 g.1 h.2.1 g.2.1 (fun c M' f1 c1 c2 => ?_) (fun c M' f1 c2 => ?_)
    · rw [cif_pos c, cif_pos c]
      refine ⟨rfl, fr_mono f1 (fun a j q => by unfold Zr; omega), ?_⟩
      have k : ∀ a j, ¬ ((92 ≤ a ∧ a ≤ 97) ∨ (a = 66 ∧ (j = 33 ∨ j = 1))) → q_nm M' a j = q_nm M a j := fun a j x => f1.2 a j x
      obtain ⟨h1, h2, ⟨h3, h4, h5⟩, h6, h7, h8, h9, h10⟩ := h
      refine ⟨R_T_nil c2, c1, ⟨(k _ _ (by omega)).trans h3, fun r a b => R_row_fr (h4 r a b) (fun a j _ _ => k _ _ (by omega)), ?_⟩, fun j a b => R_so_fr (h6 j a b) (fun a j _ _ => k _ _ (by omega)), ⟨(k _ _ (by omega)).trans h7.1, (k _ _ (by omega)).trans h7.2⟩, ⟨(k _ _ (by omega)).trans h8.1, q_L_fr h8.2 (fun j _ _ => k _ _ (by omega))⟩, R_N_fr h9 (k _ _ (by omega)) (fun a j _ _ => k _ _ (by omega)), R_P_fr h10 (k _ _ (by omega)) (fun j => k _ _ (by omega))⟩
      have e1 : q_nm M' 66 56 = q_nm M 66 56 := k _ _ (by omega)
      have e2 : q_nm M' 66 67 = q_nm M 66 67 := k _ _ (by omega)
      have q := h5.1
      unfold R_Y
      rw [e1, e2]
      refine ⟨⟨q.1, q.2.1, ?_⟩, fun a b => ?_⟩
      · show q_nm M 66 67 ≤ w_nw W + 1; omega
      · have b' : q_nm M 66 67 = w_nw W + 1 := b
        omega
    · rw [cif_neg c, cif_neg c]
      exact ⟨rfl, fr_mono f1 (fun a j q => by unfold Zr; omega), WR_T h f1 (fun a j q => Or.inl q) (R_T_nil c2)⟩
end
