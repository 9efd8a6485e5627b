section
noncomputable def cif {α : Type} (p : Prop) (a b : α) : α := @ite α p (Classical.propDecidable p) a b
theorem cif_pos {α : Type} {p : Prop} {a b : α} (h : p) : cif p a b = a := by unfold cif; exact if_pos h
theorem cif_neg {α : Type} {p : Prop} {a b : α} (h : ¬ p) : cif p a b = b := by unfold cif; exact if_neg h
theorem kR_rfl {M : qM} (hl : q_lay M) : kR M M := kR_fr hl fr_rfl
/-- rows and scripts under moves of low cells -/
theorem RRSS {Z : Int → Int → Prop} {W : qW} {M M' : qM} (h3 : C_RR W M) (h4 : C_SS W M) (f : fr Z M M') (z : ∀ a j, Z a j → a < 126 ∧ ¬ (a = 0 ∧ j = 3)) : C_RR W M' ∧ C_SS W M' := by
  refine ⟨C_RR_fr h3 f (fun q => (z _ _ q).2 ⟨rfl, rfl⟩) (fun a j x q => by have := (z _ _ q).1; omega), C_SS_fr h4 f (fun x p q a j e u v w => ?_)⟩
  have q1 := (h4 x p q).1
  have z1 := (z _ _ w).1
  cases e2 : w_SO W x with
  | none => exact absurd e2 e
  | some sc => rw [e2] at q1; have := q1.1.1.1; omega
theorem ok_fault' {L : Nat} {X : Int → Int} {D : Nat} : ∀ a : Int, q_i32 a → q_ok L X (INV L X) (D + 30) 104 187 [.inl a] := fun a _ =>
  q_okQ (fun W => if a = 0 then w_fk W else if a = 1 then w_fp W else -1) id (fun W g => g)
    (fun W M hl g h => q_enter (t_104_0 hl (by
      rw [h.2.2.2.2.1.1, h.2.2.2.2.1.2]
      exact ⟨fun z => ⟨fun y => ⟨by rw [if_neg z, if_neg y], kR_rfl hl, h⟩, fun y => ⟨by rw [if_neg z, if_pos y], kR_rfl hl, h⟩⟩, fun z => ⟨by rw [if_pos z], kR_rfl hl, h⟩⟩)))
    (fun W M hl g h => q_enter (t_187_0 hl (by
      rw [h.2.2.2.2.1.1, h.2.2.2.2.1.2]
      exact ⟨fun z => ⟨fun y => ⟨by rw [if_neg z, if_neg y], fr_rfl, h⟩, fun y => ⟨by rw [if_neg z, if_pos y], fr_rfl, h⟩⟩, fun z => ⟨by rw [if_pos z], fr_rfl, h⟩⟩)))
theorem ok_letter' {L : Nat} {X : Int → Int} {D : Nat} : ∀ a : Int, q_i32 a → q_ok L X (INV L X) (D + 30) 111 222 [.inl a] := fun a _ =>
  q_okQ (fun W => tb (w_sd W) a) id (fun W g => g)
    (fun W M hl g h => q_enter (t_111_0 hl (c_58 (isSp19 hl) h.2.2.2.2.2.1 g.2.2.2.1.1 ⟨hl, rfl, kR_rfl hl, h⟩)))
    (fun W M hl g h => q_enter (t_222_0 hl (by
      have s := h.2.2.2.2.2.1
      have g1 := g.2.2.2.1.1
      rw [s.1]
      refine ⟨fun z => ⟨(tb_out (by omega)).symm, fr_rfl, h⟩, fun z => ⟨fun y => ⟨(tb_out (by omega)).symm, fr_rfl, h⟩, fun y => ⟨by omega, ?_, fr_rfl, h⟩⟩⟩
      rw [tb_in z y]; exact q_L_get0 s.2 z y)))
theorem ok_octet' {L : Nat} {X : Int → Int} {D : Nat} : ∀ a : Int, q_i32 a → q_ok L X (INV L X) (D + 30) 132 252 [.inl a] := fun a _ =>
  q_okQ (fun W => tb (w_pc W) a) id (fun W g => g)
    (fun W M hl g h => q_enter (t_132_0 hl (by
      have s := h.2.2.2.2.2.2.2
      have g1 : (w_pc W).length ≤ 2042 := g.2.2.2.2.2
      rw [s.1]
      refine ⟨fun z => ⟨(tb_out (by omega)).symm, kR_rfl hl, h⟩, fun z => ⟨fun y => ⟨(tb_out (by omega)).symm, kR_rfl hl, h⟩, fun y => ⟨by omega, ?_, kR_rfl hl, h⟩⟩⟩
      rw [tb_in z y]
      have e := s.2 a.toNat (by omega)
      rwa [show ((a.toNat : Nat) : Int) = a by omega] at e)))
    (fun W M hl g h => q_enter (t_252_0 hl (by
      have s := h.2.2.2.2.2.2.2
      have g1 : (w_pc W).length ≤ 2042 := g.2.2.2.2.2
      rw [s.1]
      refine ⟨fun z => ⟨(tb_out (by omega)).symm, fr_rfl, h⟩, fun z => ⟨fun y => ⟨(tb_out (by omega)).symm, fr_rfl, h⟩, fun y => ⟨by omega, ?_, fr_rfl, h⟩⟩⟩
      rw [tb_in z y]; exact q_L_get0 s.2 z y)))
/-- the world with another tape -/
abbrev w_setT (W : qW) (tp : List Int) : qW := (tp, W.2)
theorem WC_T {Z : Int → Int → Prop} {W : qW} {M M' : qM} {tp : List Int} (g : WG W) (h : WC W M) (f : fr Z M M') (z : ∀ a j, Z a j → a = 1 ∨ a = 2) (hT : C_T tp M') : WC (w_setT W tp) M' := by
  have k : ∀ a j, a ≠ 1 → a ≠ 2 → q_nm M' a j = q_nm M a j := fun a j x y => f.2 a j (fun w => by have := z a j w; omega)
  have r := RRSS h.2.2.1 h.2.2.2.1 f (fun a j w => by have := z a j w; omega)
  exact ⟨hT, C_W_fr h.2.1 (fun a j _ _ => k _ _ (by omega) (by omega)), r.1, r.2, ⟨(k _ _ (by omega) (by omega)).trans h.2.2.2.2.1.1, (k _ _ (by omega) (by omega)).trans h.2.2.2.2.1.2⟩, C_Sp_fr h.2.2.2.2.2.1 (k _ _ (by omega) (by omega)) (fun j => k _ _ (by omega) (by omega)), C_N_fr g.2.2.2.2.1.1.2 h.2.2.2.2.2.2.1 (fun a j _ _ => k _ _ (by omega) (by omega)), C_P_fr h.2.2.2.2.2.2.2 (k _ _ (by omega) (by omega)) (fun j => k _ _ (by omega) (by omega))⟩
theorem WR_T {Z : Int → Int → Prop} {W : qW} {M M' : qM} {tp : List Int} (h : WR W M) (f : fr Z M M') (z : ∀ a j, Z a j → (a = 66 ∧ j = 1) ∨ a = 67) (hT : R_T tp M') : WR (w_setT W tp) M' := by
  have k : ∀ a j, ¬ ((a = 66 ∧ j = 1) ∨ a = 67) → q_nm M' a j = q_nm M a j := fun a j x => f.2 a j (fun w => x (z a j w))
  obtain ⟨h1, h2, ⟨h3, h4, h5⟩, h6, h7, h8, h9, h10⟩ := h
  refine ⟨hT, R_W_fr h2 (k _ _ (by omega)) (fun a j _ _ => k _ _ (by omega)), ⟨(k _ _ (by omega)).trans h3, fun r a b => R_row_fr (h4 r a b) (fun a j _ _ => k _ _ (by omega)), ?_⟩, fun j a b => R_so_fr (h6 j a b) (fun a j _ _ => k _ _ (by omega)), ⟨(k _ _ (by omega)).trans h7.1, (k _ _ (by omega)).trans h7.2⟩, ⟨(k _ _ (by omega)).trans h8.1, q_L_fr h8.2 (fun j _ _ => k _ _ (by omega))⟩, R_N_fr h9 (k _ _ (by omega)) (fun a j _ _ => k _ _ (by omega)), R_P_fr h10 (k _ _ (by omega)) (fun j => k _ _ (by omega))⟩
  have e1 : q_nm M' 66 56 = q_nm M 66 56 := k _ _ (by omega)
  have e2 : q_nm M' 66 67 = q_nm M 66 67 := k _ _ (by omega)
  unfold R_Y
  rw [e1, e2]
  refine ⟨h5.1, fun a b => ⟨(k _ _ (by omega)).trans (h5.2 a b).1, fun i hi => ?_⟩⟩
  obtain ⟨⟨q1, q2, q3⟩, q4, q5, q6, q7, q8⟩ := (h5.2 a b).2 i hi
  refine ⟨⟨(k _ _ (by omega)).trans q1, (k _ _ (by omega)).trans q2, (k _ _ (by omega)).trans q3⟩, (k _ _ (by omega)).trans q4, q_L_fr q5 (fun j _ _ => k _ _ (by omega)), (k _ _ (by omega)).trans q6, (k _ _ (by omega)).trans q7, ?_⟩
  rw [k _ _ (by omega)]; exact q8
theorem G_T_take {tp : List Int} (g : G_T tp) (n : Nat) : G_T (tp.take n) := ⟨by rw [List.length_take]; have := g.1; omega, fun b hb => g.2 b (List.mem_of_mem_take hb)⟩
theorem ok_end' {L : Nat} {X : Int → Int} {D : Nat} : ∀ a : Int, q_i32 a → q_ok L X (INV L X) (D + 30) 98 148 [.inl a] := fun a _ => by
  have tk : ∀ (tp : List Int), 0 ≤ a → a ≤ tp.length → ((tp.take a.toNat).length : Int) = a ∧ ∀ i : Nat, i < (tp.take a.toNat).length → (tp.take a.toNat).getD i 0 = tp.getD i 0 := fun tp x y => by
    have l : (tp.take a.toNat).length = a.toNat := by rw [List.length_take]; omega
    refine ⟨by omega, fun i hi => ?_⟩
    rw [List.getD_eq_getElem?_getD, List.getD_eq_getElem?_getD, List.getElem?_take, if_pos (by omega)]
  refine q_okQ (fun W => if 0 ≤ a ∧ a ≤ (w_tp W).length then 1 else 0) (fun W => if 0 ≤ a ∧ a ≤ (w_tp W).length then w_setT W ((w_tp W).take a.toNat) else W) (fun W g => ?_) (fun W M hl g h => q_enter (t_98_0 hl ?_)) (fun W M hl g h => q_enter (t_148_0 hl ?_))
  · split
    · exact ⟨G_T_take g.1 _, g.2⟩
    · exact g
  · rw [h.1.1]
    refine ⟨fun z => ?_, fun z => ⟨fun y M1 e1 l1 => ?_, fun y => ?_⟩⟩
    · rw [if_neg (by omega), if_neg (by omega)]; exact ⟨rfl, kR_rfl hl, h⟩
    · rw [if_pos ⟨z, y⟩, if_pos ⟨z, y⟩]
      have f1 : fr (fun a j => a = 1 ∧ j = 1) M M1 := fr_wn e1 ⟨rfl, rfl⟩
      have t := tk (w_tp W) z y
      refine ⟨rfl, kR_fr hl (fr_mono f1 (fun a j q => by unfold Zc; omega)), WC_T g h f1 (fun a j q => Or.inl q.1) ⟨(wn_eq e1).trans t.1.symm, fun i hi => ?_⟩⟩
      rw [wn_ne e1 (by omega), t.2 i hi]; exact h.1.2 i (by rw [List.length_take] at hi; omega)
    · rw [if_neg (by omega), if_neg (by omega)]; exact ⟨rfl, kR_rfl hl, h⟩
  · rw [h.1.1]
    refine ⟨fun z => ?_, fun z => ⟨fun y M1 e1 l1 => ?_, fun y => ?_⟩⟩
    · rw [if_neg (by omega), if_neg (by omega)]; exact ⟨rfl, fr_rfl, h⟩
    · rw [if_pos ⟨z, y⟩, if_pos ⟨z, y⟩]
      have f1 : fr (fun a j => a = 66 ∧ j = 1) M M1 := fr_wn e1 ⟨rfl, rfl⟩
      have t := tk (w_tp W) z y
      refine ⟨rfl, fr_mono f1 (fun a j q => by unfold Zr; omega), WR_T h f1 (fun a j q => Or.inl q) ⟨(wn_eq e1).trans t.1.symm, fun i hi => ?_⟩⟩
      rw [wn_ne e1 (by omega), t.2 i hi]; exact h.1.2 i (by rw [List.length_take] at hi; omega)
    · rw [if_neg (by omega), if_neg (by omega)]; exact ⟨rfl, fr_rfl, h⟩
theorem q_apl_fr {A B f : Int} : ∀ (ys : List Int) (n : Int) (M : qM), fr (fun a j => a = A ∨ (a = B ∧ j = f)) M (q_apl A B f ys n M)
  | [], _, _ => fr_rfl
  | y :: t, n, M => fr_trans (fr_trans (fr_wn (M' := q_wn M A n y) rfl (Or.inl rfl)) (fr_wn (M' := q_wn (q_wn M A n y) B f (n + 1)) rfl (Or.inr ⟨rfl, rfl⟩))) (q_apl_fr t (n + 1) _)
def zsF (x1 x2 x3 x4 x5 : Int) : List Int := q_z4 x1 ++ (q_z4 x2 ++ (q_z4 x3 ++ (q_z4 x4 ++ q_z4 x5)))
def bsF (x1 x2 x3 x4 x5 : Int) : List Int := q_b4 x1 ++ (q_b4 x2 ++ (q_b4 x3 ++ (q_b4 x4 ++ q_b4 x5)))
theorem z4_b4 (x : Int) : q_z4 x = (q_b4 x).map (fun y => q_and y 255) := by
  unfold q_z4 q_b4
  simp only [List.map_cons, List.map_nil, q_and_w8]
theorem zsF_map (x1 x2 x3 x4 x5 : Int) : zsF x1 x2 x3 x4 x5 = (bsF x1 x2 x3 x4 x5).map (fun y => q_and y 255) := by
  unfold zsF bsF
  simp only [List.map_append, z4_b4]
theorem bsF_len (x1 x2 x3 x4 x5 : Int) : (bsF x1 x2 x3 x4 x5).length = 20 := rfl
theorem zsF_len (x1 x2 x3 x4 x5 : Int) : (zsF x1 x2 x3 x4 x5).length = 20 := rfl
theorem ok_feed' {L : Nat} {X : Int → Int} {D : Nat} : ∀ x1 x2 x3 x4 x5 : Int, q_i32 x1 → q_i32 x2 → q_i32 x3 → q_i32 x4 → q_i32 x5 → q_ok L X (INV L X) (D + 30) 97 147 [.inl x1, .inl x2, .inl x3, .inl x4, .inl x5] := fun x1 x2 x3 x4 x5 _ _ _ _ _ => by
  have zl := zsF_len x1 x2 x3 x4 x5
  have bl := bsF_len x1 x2 x3 x4 x5
  refine q_okQ (fun W => if ((w_tp W).length : Int) + 20 ≤ 2100 then (w_tp W).length + 20 else -1) (fun W => if ((w_tp W).length : Int) + 20 ≤ 2100 then w_setT W (w_tp W ++ zsF x1 x2 x3 x4 x5) else W) (fun W g => ?_) (fun W M hl g h => ?_) (fun W M hl g h => ?_)
  · split
    · refine ⟨⟨by rw [List.length_append]; omega, fun b hb => ?_⟩, g.2⟩
      rcases List.mem_append.mp hb with q | q
      · exact g.1.2 b q
      · rw [zsF_map] at q
        obtain ⟨y, _, hy⟩ := List.mem_map.mp q
        rw [← hy]; exact q_and_rng y
    · exact g
  · by_cases hz : ((w_tp W).length : Int) + 20 ≤ 2100
    · refine c_97 (d := D + 28) hl h.1.1 (by omega) hz ?_
      rw [if_pos hz, if_pos hz]
      have f1 := q_apl_fr (A := 2) (B := 1) (f := 1) (bsF x1 x2 x3 x4 x5) (w_tp W).length M
      refine ⟨rfl, kR_fr hl (fr_mono f1 (fun a j q => by unfold Zc; omega)), WC_T g h f1 (fun a j q => by omega) ?_⟩
      refine ⟨?_, fun i hi => ?_⟩
      · have e := q_apl_nm (A := 2) (B := 1) (f := 1) (by decide) (bsF x1 x2 x3 x4 x5) (w_tp W).length M 1 1 h.1.1
        rw [if_pos ⟨rfl, rfl⟩] at e
        rw [List.length_append, zl]
        exact e.trans (by rw [bl]; omega)
      · have e := q_apl_nm (A := 2) (B := 1) (f := 1) (by decide) (bsF x1 x2 x3 x4 x5) (w_tp W).length M 2 i h.1.1
        rw [if_neg (by omega)] at e
        rw [List.length_append, zl] at hi
        show q_and (q_nm (q_apl 2 1 1 (bsF x1 x2 x3 x4 x5) (w_tp W).length M) 2 i) 255 = _
        rw [e]
        by_cases c : i < (w_tp W).length
        · rw [if_neg (by omega), getD_app1 c]; exact h.1.2 i c
        · rw [if_pos ⟨rfl, by omega, by rw [bl]; omega⟩, getD_app2 (by omega), zsF_map, List.getD_eq_getElem?_getD, List.getD_eq_getElem?_getD, List.getElem?_map, show ((i : Int) - ((w_tp W).length : Int)).toNat = i - (w_tp W).length by omega, List.getElem?_eq_getElem (by rw [bl]; omega)]
          rfl
    · refine q_enter (s_97_0 ?_)
      have ht := h.1.1
      have gt := g.1.1
      have e0 : w32 (q_nm M (q_rf M 0 0) 1 + 20) = (w_tp W).length + 20 := by rw [lr0_0 hl, ht]; exact w32_id (by omega) (by omega)
      refine ⟨lk0 hl, by rw [lr0_0 hl]; exact lk1 hl, fun q => absurd q (by rw [e0]; omega), fun _ => ?_⟩
      rw [if_neg hz, if_neg hz]; exact ⟨rfl, kR_rfl hl, h⟩
  · by_cases hz : ((w_tp W).length : Int) + 20 ≤ 2100
    · refine r_147 (d := D + 29) hl h.1.1 (by omega) hz ?_
      rw [if_pos hz, if_pos hz]
      have f1 := q_apl_fr (A := 67) (B := 66) (f := 1) (zsF x1 x2 x3 x4 x5) (w_tp W).length M
      refine ⟨rfl, fr_mono f1 (fun a j q => by unfold Zr; omega), WR_T h f1 (fun a j q => by omega) ?_⟩
      refine ⟨?_, fun i hi => ?_⟩
      · have e := q_apl_nm (A := 67) (B := 66) (f := 1) (by decide) (zsF x1 x2 x3 x4 x5) (w_tp W).length M 66 1 h.1.1
        rw [if_pos ⟨rfl, rfl⟩] at e
        rw [List.length_append, zl]
        exact e.trans (by rw [zl]; omega)
      · have e := q_apl_nm (A := 67) (B := 66) (f := 1) (by decide) (zsF x1 x2 x3 x4 x5) (w_tp W).length M 67 i h.1.1
        rw [if_neg (by omega)] at e
        rw [List.length_append, zl] at hi
        show q_nm (q_apl 67 66 1 (zsF x1 x2 x3 x4 x5) (w_tp W).length M) 67 (0 + i) = _
        rw [Int.zero_add, e]
        by_cases c : i < (w_tp W).length
        · rw [if_neg (by omega), getD_app1 c]
          have := h.1.2 i c
          rwa [Int.zero_add] at this
        · rw [if_pos ⟨rfl, by omega, by rw [zl]; omega⟩, getD_app2 (by omega), show ((i : Int) - ((w_tp W).length : Int)).toNat = i - (w_tp W).length by omega]
    · refine q_enter (s_147_0 ?_)
      have ht := h.1.1
      have gt := g.1.1
      have e0 : w32 (q_nm M 66 1 + 20) = (w_tp W).length + 20 := by rw [ht]; exact w32_id (by omega) (by omega)
      refine ⟨lk66 hl, fun q => absurd q (by rw [e0]; omega), fun _ => ?_⟩
      rw [if_neg hz, if_neg hz]; exact ⟨rfl, fr_rfl, h⟩
end
