section
/-! WHAT TIES THE CLASS'S CELLS TO THE REFERENCE'S, piece by piece -/
/-- the tape -/
def i_T (M : qM) : Prop := q_nm M 1 1 = q_nm M 66 1 ∧ (0 ≤ q_nm M 66 1 ∧ q_nm M 66 1 ≤ 2100) ∧ ∀ j, 0 ≤ j → j < q_nm M 66 1 → (q_and (q_nm M 2 j) 255 = q_nm M 67 j ∧ 0 ≤ q_nm M 67 j ∧ q_nm M 67 j ≤ 255)
/-- the fault -/
def i_F (M : qM) : Prop := q_nm M 0 7 = q_nm M 66 7 ∧ q_nm M 0 8 = q_nm M 66 8
/-- the said: letters and blanks -/
def i_S (M : qM) : Prop := q_nm M 19 1 = q_nm M 66 71 ∧ (0 ≤ q_nm M 66 71 ∧ q_nm M 66 71 ≤ 100) ∧ ∀ j, 0 ≤ j → j < q_nm M 66 71 → (q_nm M 20 j = q_nm M 119 j ∧ (q_nm M 20 j = 32 ∨ 97 ≤ q_nm M 20 j ∧ q_nm M 20 j ≤ 122))
theorem ok_fault {L : Nat} {X : Int → Int} {Inv : qM → Prop} {D : Nat} (hI : ∀ M, Inv M → q_scr L X M ∧ q_lay M ∧ i_F M) : ∀ a : Int, q_i32 a → q_ok L X Inv (D + 1) 104 187 [.inl a] := by
  intro a _ M hM
  obtain ⟨hs, hl, hf⟩ := hI M hM
  refine q_enter (s_104_0 ?_)
  refine ⟨fun h1 => ⟨fun h2 => ?_, fun h2 => ⟨lk0 hl, ?_⟩⟩, fun h1 => ⟨lk0 hl, ?_⟩⟩ <;> refine ⟨⟨hs, lk66 hl⟩, q_enter (s_187_0 ?_)⟩ <;> simp_all [lk66 hl, hf.1, hf.2]
theorem ok_letter {L : Nat} {X : Int → Int} {Inv : qM → Prop} {D : Nat} (hI : ∀ M, Inv M → q_scr L X M ∧ q_lay M ∧ i_S M) : ∀ a : Int, q_i32 a → q_ok L X Inv (D + 2) 111 222 [.inl a] := by
  intro a _ M hM
  obtain ⟨hs, hl, h1, ⟨h2, h3⟩, h4⟩ := hI M hM
  refine q_enter (s_111_0 ⟨lk0 hl, by rw [lr0_9 hl]; exact lk19 hl, ?_⟩)
  rw [lr0_9 hl]
  refine q_enter (s_58_0 ?_)
  rw [lr19_0 hl, h1]
  have K : ∀ v : Int, v = (if 0 ≤ a ∧ a < q_nm M 66 71 then q_nm M 119 a else -1) → (q_scr L X M ∧ q_kd M 66 = 11) ∧ q_WP q_Pr (D + 2) 222 [.inr (.inr 66), .inl a] M (fun w M3 => v = w ∧ Inv M3) := by
    intro v hv
    refine ⟨⟨hs, lk66 hl⟩, q_enter (s_222_0 ?_)⟩
    rw [lr66_72 hl]
    refine ⟨fun g => ⟨by rw [hv, if_neg (by omega)], hM⟩, fun g => ⟨lk66 hl, fun g2 => ⟨by rw [hv, if_neg (by omega)], hM⟩, fun g2 => ⟨lk66 hl, ⟨lk119 hl, g, by rw [ll119 hl]; omega⟩, by rw [hv, if_pos ⟨g, g2⟩], hM⟩⟩⟩
  refine ⟨fun g => K _ (by rw [if_neg (by omega)]), fun g => ⟨lk19 hl, fun g2 => K _ (by rw [if_neg (by omega)]), fun g2 => ⟨lk19 hl, ⟨Or.inl (lk20 hl), g, by rw [ll20 hl]; omega⟩, K _ (by rw [if_pos ⟨g, g2⟩]; exact (h4 a g g2).1)⟩⟩⟩
/-- the picture -/
def i_P (M : qM) : Prop := q_nm M 64 1 = q_nm M 66 81 ∧ (0 ≤ q_nm M 66 81 ∧ q_nm M 66 81 ≤ 2042) ∧ ∀ j, 0 ≤ j → j < q_nm M 66 81 → q_and (q_nm M 65 j) 255 = q_nm M 125 j
theorem ok_octet {L : Nat} {X : Int → Int} {Inv : qM → Prop} {D : Nat} (hI : ∀ M, Inv M → q_scr L X M ∧ q_lay M ∧ i_P M) : ∀ a : Int, q_i32 a → q_ok L X Inv (D + 1) 132 252 [.inl a] := by
  intro a _ M hM
  obtain ⟨hs, hl, h1, ⟨h2, h3⟩, h4⟩ := hI M hM
  refine q_enter (s_132_0 ?_)
  rw [lr0_11 hl, lr64_0 hl, h1]
  have K : ∀ v : Int, v = (if 0 ≤ a ∧ a < q_nm M 66 81 then q_nm M 125 a else -1) → (q_scr L X M ∧ q_kd M 66 = 11) ∧ q_WP q_Pr (D + 1) 252 [.inr (.inr 66), .inl a] M (fun w M3 => v = w ∧ Inv M3) := by
    intro v hv
    refine ⟨⟨hs, lk66 hl⟩, q_enter (s_252_0 ?_)⟩
    rw [lr66_80 hl]
    refine ⟨fun g => ⟨by rw [hv, if_neg (by omega)], hM⟩, fun g => ⟨lk66 hl, fun g2 => ⟨by rw [hv, if_neg (by omega)], hM⟩, fun g2 => ⟨lk66 hl, ⟨lk125 hl, g, by rw [ll125 hl]; omega⟩, by rw [hv, if_pos ⟨g, g2⟩], hM⟩⟩⟩
  refine ⟨fun g => K _ (by rw [if_neg (by omega)]), fun g => ⟨lk0 hl, lk64 hl, fun g2 => K _ (by rw [if_neg (by omega)]), fun g2 => ⟨lk0 hl, lk64 hl, ⟨Or.inl (lk65 hl), g, by rw [ll65 hl]; omega⟩, K _ (by rw [if_pos ⟨g, g2⟩]; exact h4 a g g2)⟩⟩⟩
/-- the tape keeps its first bytes -/
theorem ok_end {L : Nat} {X : Int → Int} {Inv : qM → Prop} {D : Nat} (hI : ∀ M, Inv M → q_scr L X M ∧ q_lay M ∧ i_T M) (hN : ∀ M n, Inv M → 0 ≤ n → n ≤ q_nm M 66 1 → Inv (q_wn (q_wn M 1 1 n) 66 1 n)) : ∀ a : Int, q_i32 a → q_ok L X Inv (D + 1) 98 148 [.inl a] := by
  intro a _ M hM
  obtain ⟨hs, hl, h1, ⟨h2, h3⟩, h4⟩ := hI M hM
  refine q_enter (s_98_0 ?_)
  rw [lr0_0 hl, h1]
  have K : ¬ (0 ≤ a ∧ a ≤ q_nm M 66 1) → (q_scr L X M ∧ q_kd M 66 = 11) ∧ q_WP q_Pr (D + 1) 148 [.inr (.inr 66), .inl a] M (fun w M3 => 0 = w ∧ Inv M3) := by
    intro hv
    refine ⟨⟨hs, lk66 hl⟩, q_enter (s_148_0 ?_)⟩
    exact ⟨fun g => ⟨⟨by decide, by decide⟩, rfl, hM⟩, fun g => ⟨lk66 hl, fun g2 => absurd ⟨g, g2⟩ hv, fun g2 => ⟨⟨by decide, by decide⟩, rfl, hM⟩⟩⟩
  refine ⟨fun g => ⟨⟨by decide, by decide⟩, K (by omega)⟩, fun g => ⟨lk0 hl, lk1 hl, fun g2 => ⟨lk0 hl, lk1 hl, ⟨by decide, by decide⟩, ⟨⟨hs.1, hs.2.1, fun j => ?_⟩, lk66 hl⟩, q_enter (s_148_0 ?_)⟩, fun g2 => ⟨⟨by decide, by decide⟩, K (by omega)⟩⟩⟩
  · rw [q_wn_nm, if_neg (by omega)]; exact hs.2.2 j
  · have e : q_nm (q_wn M 1 1 a) 66 1 = q_nm M 66 1 := by rw [q_wn_nm, if_neg (by omega)]
    rw [e]
    exact ⟨fun g3 => absurd g3 (by omega), fun _ => ⟨lk66 hl, fun _ => ⟨lk66 hl, ⟨by decide, by decide⟩, rfl, hN M a hM g g2⟩, fun g3 => absurd g2 (by omega)⟩⟩
/-- the last note goes -/
theorem ok_undo {L : Nat} {X : Int → Int} {Inv : qM → Prop} {D : Nat} (hI : ∀ M, Inv M → q_scr L X M ∧ q_lay M ∧ q_nm M 21 2 = q_nm M 66 73 ∧ 0 ≤ q_nm M 66 73 ∧ q_nm M 66 73 ≤ 20) (hN : ∀ M, Inv M → 0 < q_nm M 66 73 → Inv (q_wn (q_wn M 21 2 (q_nm M 66 73 - 1)) 66 73 (q_nm M 66 73 - 1))) : q_ok L X Inv (D + 1) 119 234 [] := by
  intro M hM
  obtain ⟨hs, hl, h1, h2, h3⟩ := hI M hM
  refine q_enter (s_119_0 ?_)
  rw [lr0_10 hl, h1]
  have ew : w32 (q_nm M 66 73 - 1) = q_nm M 66 73 - 1 := w32_id (by omega) (by omega)
  rw [ew]
  refine ⟨lk0 hl, lk21 hl, fun g => ⟨lk0 hl, lk21 hl, lk21 hl, lk0 hl, ?_⟩, fun g => ⟨⟨hs, lk66 hl⟩, q_enter (s_234_0 ⟨lk66 hl, fun g2 => absurd g g2, fun _ => ⟨rfl, hM⟩⟩)⟩⟩
  have er : q_rf (q_wn M 21 2 (q_nm M 66 73 - 1)) 0 10 = 21 := lr0_10 hl
  rw [er]
  refine ⟨lk21 hl, ⟨⟨hs.1, hs.2.1, fun j => ?_⟩, lk66 hl⟩, q_enter (s_234_0 ?_)⟩
  · rw [q_wn_nm, if_neg (by omega)]; exact hs.2.2 j
  · have e : q_nm (q_wn M 21 2 (q_nm M 66 73 - 1)) 66 73 = q_nm M 66 73 := by rw [q_wn_nm, if_neg (by omega)]
    rw [e, ew]
    refine ⟨lk66 hl, fun _ => ⟨lk66 hl, lk66 hl, lk66 hl, ?_, hN M hM (by omega)⟩, fun g2 => absurd g2 g⟩
    rw [q_wn_nm, if_pos ⟨rfl, rfl⟩, q_wn_nm, if_pos ⟨rfl, rfl⟩]
end
