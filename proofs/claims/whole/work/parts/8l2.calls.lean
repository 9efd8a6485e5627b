section
def w_H (W : qW) (k : Int) : Bool := (w_SO W k).isSome
theorem C_SS_H {W : qW} {M : qM} (h : C_SS W M) : C_H (w_H W) M := by
  intro k a b
  have q := (h k a b).1
  unfold w_H
  cases e : w_SO W k with
  | none => rw [e] at q; exact ⟨fun _ => rfl, fun _ => q⟩
  | some sc => rw [e] at q; have := q.1.1.1; exact ⟨fun z => by omega, fun z => absurd z (by simp)⟩
theorem R_SS_H {W : qW} {M : qM} (h : ∀ k, 0 ≤ k → k < 5 → R_so M k (w_SO W k)) : R_H (w_H W) M := by
  intro k a b
  have q := h k a b
  unfold w_H
  cases e : w_SO W k with
  | none => rw [e] at q; exact ⟨fun _ => rfl, fun _ => q⟩
  | some sc => rw [e] at q; exact ⟨fun z => absurd z q.1, fun z => absurd z (by simp)⟩
theorem ok_has' {L : Nat} {X : Int → Int} {D : Nat} : ∀ a : Int, q_i32 a → q_ok L X (INV L X) (D + 30) 101 166 [.inl a] := fun a _ =>
  q_okQ (fun W => a_has (w_nw W) (w_nr W) (w_nn W) (w_H W) (w_sd W) a) id (fun W g => g)
    (fun W M hl g h => c_101 hl h.2.1.1.1 h.2.2.1.1 (C_SS_H h.2.2.2.1) h.2.2.2.2.2.2.1.1 h.2.2.2.2.2.1.1 ⟨rfl, kR_rfl hl, h⟩)
    (fun W M hl g h => r_166 hl h.2.1.1 h.2.2.1.1 (R_SS_H h.2.2.2.1) h.2.2.2.2.2.2.1.1 h.2.2.2.2.2.1.1 ⟨rfl, fr_rfl, h⟩)
abbrev w_setS (W : qW) (sd : List Int) : qW := (W.1, W.2.1, W.2.2.1, W.2.2.2.1, W.2.2.2.2.1, sd, W.2.2.2.2.2.2)
abbrev w_setN (W : qW) (nn : Int) (NR : Int → Int) (NL : Int → List Int) : qW := (W.1, W.2.1, W.2.2.1, W.2.2.2.1, W.2.2.2.2.1, W.2.2.2.2.2.1, (nn, NR, NL), W.2.2.2.2.2.2.2)
abbrev w_setP (W : qW) (pc : List Int) : qW := (W.1, W.2.1, W.2.2.1, W.2.2.2.1, W.2.2.2.2.1, W.2.2.2.2.2.1, W.2.2.2.2.2.2.1, pc)
theorem WC_S {Z : Int → Int → Prop} {W : qW} {M M' : qM} {sd : List Int} (g : WG W) (h : WC W M) (f : fr Z M M') (z : ∀ a j, Z a j → a = 19 ∨ a = 20) (hS : C_Sp 19 20 sd M') : WC (w_setS W sd) M' := by
  have k : ∀ a j, a ≠ 19 → a ≠ 20 → q_nm M' a j = q_nm M a j := fun a j x y => f.2 a j (fun w => by have := z a j w; omega)
  have r := RRSS h.2.2.1 h.2.2.2.1 f (fun a j w => by have := z a j w; omega)
  exact ⟨C_T_fr h.1 (fun j => ⟨k _ _ (by omega) (by omega), k _ _ (by omega) (by omega)⟩), C_W_fr h.2.1 (fun a j _ _ => k _ _ (by omega) (by omega)), r.1, r.2, ⟨(k _ _ (by omega) (by omega)).trans h.2.2.2.2.1.1, (k _ _ (by omega) (by omega)).trans h.2.2.2.2.1.2⟩, hS, C_N_fr g.2.2.2.2.1.1.2 h.2.2.2.2.2.2.1 (fun a j _ _ => k _ _ (by omega) (by omega)), C_P_fr h.2.2.2.2.2.2.2 (k _ _ (by omega) (by omega)) (fun j => k _ _ (by omega) (by omega))⟩
theorem WC_N {Z : Int → Int → Prop} {W : qW} {M M' : qM} {nn : Int} {NR : Int → Int} {NL : Int → List Int} (g : WG W) (h : WC W M) (f : fr Z M M') (z : ∀ a j, Z a j → 21 ≤ a ∧ a ≤ 63) (hN : C_N nn NR NL M') : WC (w_setN W nn NR NL) M' := by
  have k : ∀ a j, ¬ (21 ≤ a ∧ a ≤ 63) → q_nm M' a j = q_nm M a j := fun a j x => f.2 a j (fun w => x (z a j w))
  have r := RRSS h.2.2.1 h.2.2.2.1 f (fun a j w => by have := z a j w; omega)
  exact ⟨C_T_fr h.1 (fun j => ⟨k _ _ (by omega), k _ _ (by omega)⟩), C_W_fr h.2.1 (fun a j _ _ => k _ _ (by omega)), r.1, r.2, ⟨(k _ _ (by omega)).trans h.2.2.2.2.1.1, (k _ _ (by omega)).trans h.2.2.2.2.1.2⟩, C_Sp_fr h.2.2.2.2.2.1 (k _ _ (by omega)) (fun j => k _ _ (by omega)), hN, C_P_fr h.2.2.2.2.2.2.2 (k _ _ (by omega)) (fun j => k _ _ (by omega))⟩
theorem WC_P {Z : Int → Int → Prop} {W : qW} {M M' : qM} {pc : List Int} (g : WG W) (h : WC W M) (f : fr Z M M') (z : ∀ a j, Z a j → a = 64 ∨ a = 65) (hP : C_P pc M') : WC (w_setP W pc) M' := by
  have k : ∀ a j, a ≠ 64 → a ≠ 65 → q_nm M' a j = q_nm M a j := fun a j x y => f.2 a j (fun w => by have := z a j w; omega)
  have r := RRSS h.2.2.1 h.2.2.2.1 f (fun a j w => by have := z a j w; omega)
  exact ⟨C_T_fr h.1 (fun j => ⟨k _ _ (by omega) (by omega), k _ _ (by omega) (by omega)⟩), C_W_fr h.2.1 (fun a j _ _ => k _ _ (by omega) (by omega)), r.1, r.2, ⟨(k _ _ (by omega) (by omega)).trans h.2.2.2.2.1.1, (k _ _ (by omega) (by omega)).trans h.2.2.2.2.1.2⟩, C_Sp_fr h.2.2.2.2.2.1 (k _ _ (by omega) (by omega)) (fun j => k _ _ (by omega) (by omega)), C_N_fr g.2.2.2.2.1.1.2 h.2.2.2.2.2.2.1 (fun a j _ _ => k _ _ (by omega) (by omega)), hP⟩
/-- the reference's pieces that lie elsewhere -/
theorem WR_part {W : qW} {M M' : qM} (h : WR W M) (k : ∀ a j, ¬ ((a = 66 ∧ (j = 1 ∨ j = 71 ∨ j = 73 ∨ j = 81 ∨ j = 65 ∨ j = 69)) ∨ a = 67 ∨ (116 ≤ a ∧ a ≤ 125)) → q_nm M' a j = q_nm M a j) : R_W (w_nw W) (w_WL W) (w_WS W) (w_WE W) (w_WO W) M' ∧ (q_nm M' 66 40 = w_nr W ∧ (∀ r, 0 ≤ r → r < w_nr W → R_row M' r (w_RL W r)) ∧ R_Y M' (w_nw W) (w_nr W) (w_WL W) (w_WS W) (w_WE W) (w_RL W)) ∧ (∀ k, 0 ≤ k → k < 5 → R_so M' k (w_SO W k)) ∧ (q_nm M' 66 7 = w_fk W ∧ q_nm M' 66 8 = w_fp W) := by
  obtain ⟨h1, h2, ⟨h3, h4, h5⟩, h6, h7, h8, h9, h10⟩ := h
  refine ⟨R_W_fr h2 (k _ _ (by omega)) (fun a j _ _ => k _ _ (by omega)), ⟨(k _ _ (by omega)).trans h3, fun r a b => R_row_fr (h4 r a b) (fun a j _ _ => k _ _ (by omega)), ?_⟩, fun j a b => R_so_fr (h6 j a b) (fun a j _ _ => k _ _ (by omega)), ⟨(k _ _ (by omega)).trans h7.1, (k _ _ (by omega)).trans h7.2⟩⟩
  have e1 : q_nm M' 66 56 = q_nm M 66 56 := k _ _ (by omega)
  have e2 : q_nm M' 66 67 = q_nm M 66 67 := k _ _ (by omega)
  unfold R_Y
  rw [e1, e2]
  refine ⟨h5.1, fun a b => ⟨(k _ _ (by omega)).trans (h5.2 a b).1, fun i hi => ?_⟩⟩
  obtain ⟨⟨q1, q2, q3⟩, q4, q5, q6, q7, q8⟩ := (h5.2 a b).2 i hi
  refine ⟨⟨(k _ _ (by omega)).trans q1, (k _ _ (by omega)).trans q2, (k _ _ (by omega)).trans q3⟩, (k _ _ (by omega)).trans q4, q_L_fr q5 (fun j _ _ => k _ _ (by omega)), (k _ _ (by omega)).trans q6, (k _ _ (by omega)).trans q7, ?_⟩
  rw [k _ _ (by omega)]; exact q8
theorem WR_S {Z : Int → Int → Prop} {W : qW} {M M' : qM} {sd : List Int} (h : WR W M) (f : fr Z M M') (z : ∀ a j, Z a j → (a = 66 ∧ j = 71) ∨ a = 119) (hS : R_S sd M') : WR (w_setS W sd) M' := by
  have k : ∀ a j, ¬ ((a = 66 ∧ j = 71) ∨ a = 119) → q_nm M' a j = q_nm M a j := fun a j x => f.2 a j (fun w => x (z a j w))
  have p := WR_part h (fun a j q => k a j (by omega))
  exact ⟨R_T_fr h.1 (k _ _ (by omega)) (fun j => k _ _ (by omega)), p.1, p.2.1, p.2.2.1, p.2.2.2, hS, R_N_fr h.2.2.2.2.2.2.1 (k _ _ (by omega)) (fun a j _ _ => k _ _ (by omega)), R_P_fr h.2.2.2.2.2.2.2 (k _ _ (by omega)) (fun j => k _ _ (by omega))⟩
theorem WR_N {Z : Int → Int → Prop} {W : qW} {M M' : qM} {nn : Int} {NR : Int → Int} {NL : Int → List Int} (h : WR W M) (f : fr Z M M') (z : ∀ a j, Z a j → (a = 66 ∧ j = 73) ∨ (120 ≤ a ∧ a ≤ 122)) (hN : R_N nn NR NL M') : WR (w_setN W nn NR NL) M' := by
  have k : ∀ a j, ¬ ((a = 66 ∧ j = 73) ∨ (120 ≤ a ∧ a ≤ 122)) → q_nm M' a j = q_nm M a j := fun a j x => f.2 a j (fun w => x (z a j w))
  have p := WR_part h (fun a j q => k a j (by omega))
  exact ⟨R_T_fr h.1 (k _ _ (by omega)) (fun j => k _ _ (by omega)), p.1, p.2.1, p.2.2.1, p.2.2.2, ⟨(k _ _ (by omega)).trans h.2.2.2.2.2.1.1, q_L_fr h.2.2.2.2.2.1.2 (fun j _ _ => k _ _ (by omega))⟩, hN, R_P_fr h.2.2.2.2.2.2.2 (k _ _ (by omega)) (fun j => k _ _ (by omega))⟩
theorem WR_P {Z : Int → Int → Prop} {W : qW} {M M' : qM} {pc : List Int} (h : WR W M) (f : fr Z M M') (z : ∀ a j, Z a j → (a = 66 ∧ j = 81) ∨ a = 125) (hP : R_P pc M') : WR (w_setP W pc) M' := by
  have k : ∀ a j, ¬ ((a = 66 ∧ j = 81) ∨ a = 125) → q_nm M' a j = q_nm M a j := fun a j x => f.2 a j (fun w => x (z a j w))
  have p := WR_part h (fun a j q => k a j (by omega))
  exact ⟨R_T_fr h.1 (k _ _ (by omega)) (fun j => k _ _ (by omega)), p.1, p.2.1, p.2.2.1, p.2.2.2, ⟨(k _ _ (by omega)).trans h.2.2.2.2.2.1.1, q_L_fr h.2.2.2.2.2.1.2 (fun j _ _ => k _ _ (by omega))⟩, R_N_fr h.2.2.2.2.2.2.1 (k _ _ (by omega)) (fun a j _ _ => k _ _ (by omega)), hP⟩
theorem ok_undo' {L : Nat} {X : Int → Int} {D : Nat} : q_ok L X (INV L X) (D + 30) 119 234 [] := by
  refine q_okQ (fun W => if w_nn W = 0 then -1 else w_nn W - 1) (fun W => if w_nn W = 0 then W else w_setN W (w_nn W - 1) (w_NR W) (w_NL W)) (fun W g => ?_) (fun W M hl g h => q_enter (t_119_0 hl ?_)) (fun W M hl g h => q_enter (t_234_0 hl ?_))
  · have gn := g.2.2.2.2.1
    split
    · exact g
    · exact ⟨g.1, g.2.1, g.2.2.1, g.2.2.2.1, ⟨by have := gn.1; show 0 ≤ w_nn W - 1 ∧ w_nn W - 1 ≤ 20; omega, fun i a b => gn.2 i a (by have b' : i < w_nn W - 1 := b; omega)⟩, g.2.2.2.2.2⟩
  · have gn := g.2.2.2.2.1.1
    have n := h.2.2.2.2.2.2.1
    rw [n.1, w32_id (x := w_nn W - 1) (by omega) (by omega)]
    refine ⟨fun z M1 e1 l1 => ?_, fun z => ?_⟩
    · rw [if_neg z, if_neg z, wn_eq e1]
      have f1 : fr (fun a j => a = 21 ∧ j = 2) M M1 := fr_wn e1 ⟨rfl, rfl⟩
      refine ⟨rfl, kR_fr hl (fr_mono f1 (fun a j q => by unfold Zc; omega)), WC_N g h f1 (fun a j q => by omega) ⟨wn_eq e1, fun i a b => ⟨(wn_ne e1 (by omega)).trans (n.2 i a (by omega)).1, C_Sp_fr (n.2 i a (by omega)).2 (wn_ne e1 (by omega)) (fun j => wn_ne e1 (by omega))⟩⟩⟩
    · rw [if_pos z, if_pos z]; exact ⟨rfl, kR_rfl hl, h⟩
  · have gn := g.2.2.2.2.1.1
    have n := h.2.2.2.2.2.2.1
    rw [n.1, w32_id (x := w_nn W - 1) (by omega) (by omega)]
    refine ⟨fun z M1 e1 l1 => ?_, fun z => ?_⟩
    · rw [if_neg z, if_neg z, wn_eq e1]
      have f1 : fr (fun a j => a = 66 ∧ j = 73) M M1 := fr_wn e1 ⟨rfl, rfl⟩
      refine ⟨rfl, fr_mono f1 (fun a j q => by unfold Zr; omega), WR_N h f1 (fun a j q => Or.inl q) ⟨wn_eq e1, fun i a b => ⟨(wn_ne e1 (by omega)).trans (n.2 i a (by omega)).1, (wn_ne e1 (by omega)).trans (n.2 i a (by omega)).2.1, q_L_fr (n.2 i a (by omega)).2.2 (fun j _ _ => wn_ne e1 (by omega))⟩⟩⟩
    · rw [if_pos z, if_pos z]; exact ⟨rfl, fr_rfl, h⟩
theorem ok_note' {L : Nat} {X : Int → Int} {D : Nat} : ∀ a : Int, q_i32 a → q_ok L X (INV L X) (D + 30) 118 233 [.inl a] := fun a _ => by
  refine q_okQ (fun W => cif ((0 ≤ a ∧ a < w_nr W) ∧ (w_sd W).length ≠ 0 ∧ w_nn W < 20) (w_nn W + 1) (-1)) (fun W => cif ((0 ≤ a ∧ a < w_nr W) ∧ (w_sd W).length ≠ 0 ∧ w_nn W < 20) (w_setN W (w_nn W + 1) (fup (w_NR W) (w_nn W) a) (fup (w_NL W) (w_nn W) (w_sd W))) W) (fun W g => ?_) (fun W M hl g h => ?_) (fun W M hl g h => ?_)
  · have gn := g.2.2.2.2.1
    by_cases c : (0 ≤ a ∧ a < w_nr W) ∧ (w_sd W).length ≠ 0 ∧ w_nn W < 20
    · rw [cif_pos c]
      refine ⟨g.1, g.2.1, g.2.2.1, g.2.2.2.1, ⟨by have := gn.1; show 0 ≤ w_nn W + 1 ∧ w_nn W + 1 ≤ 20; omega, fun i x y => ?_⟩, g.2.2.2.2.2⟩
      show (0 ≤ fup (w_NR W) (w_nn W) a i ∧ fup (w_NR W) (w_nn W) a i < w_nr W) ∧ 1 ≤ (fup (w_NL W) (w_nn W) (w_sd W) i).length ∧ G_S (fup (w_NL W) (w_nn W) (w_sd W) i)
      by_cases e : i = w_nn W
      · rw [e, fup_eq, fup_eq]; exact ⟨c.1, by omega, g.2.2.2.1⟩
      · rw [fup_ne e, fup_ne e]
        have y' : i < w_nn W + 1 := y
        exact gn.2 i x (by omega)
    · rw [cif_neg c]; exact g
  · refine c_118 hl h.2.2.1.1 h.2.2.2.2.2.2.1 g.2.2.2.2.1.1 h.2.2.2.2.2.1 g.2.2.2.1.1 (fun c M' f1 c1 => ?_) (fun c => ?_)
    · rw [cif_pos c, cif_pos c]; exact ⟨rfl, kR_fr hl (fr_mono f1 (fun a j q => by unfold Zc; omega)), WC_N g h f1 (fun a j q => q) c1⟩
    · rw [cif_neg c, cif_neg c]; exact ⟨rfl, kR_rfl hl, h⟩
  · refine r_233 hl h.2.2.1.1 g.2.2.1.1 h.2.2.2.2.2.2.1 g.2.2.2.2.1 h.2.2.2.2.2.1 g.2.2.2.1.1 (fun c M' f1 c1 => ?_) (fun c => ?_)
    · rw [cif_pos c, cif_pos c]; exact ⟨rfl, fr_mono f1 (fun a j q => by unfold Zr; omega), WR_N h f1 (fun a j q => by omega) c1⟩
    · rw [cif_neg c, cif_neg c]; exact ⟨rfl, fr_rfl, h⟩
theorem ok_recall' {L : Nat} {X : Int → Int} {D : Nat} : ∀ a : Int, q_i32 a → q_ok L X (INV L X) (D + 30) 120 235 [.inl a] := fun a _ => by
  refine q_okQ (fun W => cif (0 ≤ a ∧ a < w_nn W) (w_NR W a) (-1)) (fun W => cif (0 ≤ a ∧ a < w_nn W) (w_setS W (w_NL W a)) W) (fun W g => ?_) (fun W M hl g h => ?_) (fun W M hl g h => ?_)
  · by_cases c : 0 ≤ a ∧ a < w_nn W
    · rw [cif_pos c]; exact ⟨g.1, g.2.1, g.2.2.1, (g.2.2.2.2.1.2 a c.1 c.2).2.2, g.2.2.2.2⟩
    · rw [cif_neg c]; exact g
  · refine c_120 hl h.2.2.2.2.2.2.1 g.2.2.2.2.1 (fun c M' f1 c1 => ?_) (fun c => ?_)
    · rw [cif_pos c, cif_pos c]; exact ⟨rfl, kR_fr hl (fr_mono f1 (fun a j q => by unfold Zc; omega)), WC_S g h f1 (fun a j q => by omega) c1⟩
    · rw [cif_neg c, cif_neg c]; exact ⟨rfl, kR_rfl hl, h⟩
  · refine r_235 hl h.2.2.2.2.2.2.1 g.2.2.2.2.1 (fun c M' f1 c1 => ?_) (fun c => ?_)
    · rw [cif_pos c, cif_pos c]; exact ⟨rfl, fr_mono f1 (fun a j q => by unfold Zr; omega), WR_S h f1 (fun a j q => q) c1⟩
    · rw [cif_neg c, cif_neg c]; exact ⟨rfl, fr_rfl, h⟩
theorem img_len {nr nn : Int} {NR : Int → Int} {NL : Int → List Int} (g : G_N nr nn NR NL) : (img nn NR NL).length ≤ 2042 := by
  have gn := g.1
  have h := imgN_len g nn.toNat (by omega)
  unfold img img0; rw [List.length_append, List.length_cons, List.length_cons, List.length_nil]; omega
theorem ok_image' {L : Nat} {X : Int → Int} {D : Nat} : q_ok L X (INV L X) (D + 30) 131 251 [] :=
  q_okQ (fun W => ((img (w_nn W) (w_NR W) (w_NL W)).length : Int)) (fun W => w_setP W (img (w_nn W) (w_NR W) (w_NL W))) (fun W g => ⟨g.1, g.2.1, g.2.2.1, g.2.2.2.1, g.2.2.2.2.1, img_len g.2.2.2.2.1⟩)
    (fun W M hl g h => c_131 (nr := w_nr W) g.2.2.1.1.2 hl h.2.2.2.2.2.2.1 g.2.2.2.2.1 (fun M' f1 c1 => ⟨rfl, kR_fr hl (fr_mono f1 (fun a j q => by unfold Zc; omega)), WC_P g h f1 (fun a j q => by omega) c1⟩))
    (fun W M hl g h => r_251 (nr := w_nr W) g.2.2.1.1.2 hl h.2.2.2.2.2.2.1 g.2.2.2.2.1 (fun M' f1 c1 => ⟨rfl, fr_mono f1 (fun a j q => by unfold Zr; omega), WR_P h f1 (fun a j q => q) c1⟩))
end
