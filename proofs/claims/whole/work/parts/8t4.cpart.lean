section
/-! THE COMPONENT READS A PART -/
theorem c_52 {tp : List Int} {r : Int} {n D o : Nat} {p : Nat → gR} {full : Bool} (hf : full = true ↔ ¬ o < 6) (h6 : o ≤ 6) (hl : gLn p) (h50 : o < 6 → cRd tp r n 50 (D + 4) ((o : Int) + 1) p) (h50b : cRb tp r n 50 (D + 4) ((o : Int) + 1)) : cRd tp r n 52 (D + 5) (o : Int) (gPart (yT tp) (yD5 tp) p full) := by
  intro P i C M h hb K
  have k4 := h.1.1.2.1.1
  have s1 : q_rf M r 0 = r + 1 := h.1.1.2.1.2.1
  have s2 : q_kd M (r + 1) = 5 := h.1.1.2.2.1.1.2.1
  have ww : w32 ((o : Int) + 1) = (o : Int) + 1 := w32_id (by omega) (by omega)
  have ho6 : ((o : Int) < 6) ↔ o < 6 := by omega
  have pl : 15 ≤ yT tp i → (yT tp i ≤ 21 ∨ 1000 ≤ yT tp i) → q_WP q_Pr (D + 4) 54 [.inr (.inr (r + 1)), .inl (yT tp i)] M (fun v1 M2 => (q_kd M2 r = 4 ∧ q_WP q_Pr (D + 4) 43 [.inr (.inr r)] M2 (fun v3 M4 => q_At q_m52 (q_WP q_Pr (D + 4)) P 161 [] [] M4 0 0))) := fun a b => by
    refine C_54' (d := D + 3) (C_go_po h) (lbC_0 hb) (fun M1 f1 h1 => ?_)
    have h1' : C_go tp r n i (C ++ ([] ++ [yT tp i])) M1 := h1
    rw [List.nil_append] at h1'
    refine ⟨h1'.1.1.2.1.1, C_43 (d := D + 3) h1' (by omega) (by omega) (fun M2 f2 h2 => s_52_161 (K M2 (fr_trans f1 f2) ?_))⟩
    unfold gPart
    rw [if_neg (by omega), if_neg (by omega)]
    by_cases q : 15 ≤ yT tp i ∧ yT tp i ≤ 21
    · rw [if_pos q]; exact h2
    · rw [if_neg q, if_pos (by omega)]
      by_cases q5 : yD5 tp i = true
      · rw [if_pos q5]; exact C_go_bd h2 (yD5_sp (by omega) q5).2
      · rw [if_neg q5]; exact h2
  have mm : (yT tp i = 22 ∨ yT tp i = 23) → q_WP q_Pr (D + 4) 43 [.inr (.inr r)] M (fun v1 M2 => (q_kd M2 r = 4 ∧ q_WP q_Pr (D + 4) 45 [.inr (.inr r), .inl (40 : Int), .inl (o : Int)] M2 (fun v3 M4 => (q_kd M4 r = 4 ∧ q_WP q_Pr (D + 4) 50 [.inr (.inr r), .inl (w32 ((o : Int) + (1 : Int)))] M4 (fun v5 M6 => (q_kd M6 r = 4 ∧ q_WP q_Pr (D + 4) 44 [.inr (.inr r), .inl (44 : Int)] M6 (fun v7 M8 => (q_kd M8 r = 4 ∧ q_WP q_Pr (D + 4) 50 [.inr (.inr r), .inl (w32 ((o : Int) + (1 : Int)))] M8 (fun v9 M10 => (q_kd M10 r = 4 ∧ q_WP q_Pr (D + 4) 44 [.inr (.inr r), .inl (41 : Int)] M10 (fun v11 M12 => (q_kd M12 r = 4 ∧ (q_kd M12 (q_rf M12 r 0) = 5 ∧ q_WP q_Pr (D + 4) 54 [.inr (.inr (q_rf M12 r 0)), .inl (yT tp i)] M12 (fun v13 M14 => q_At q_m52 (q_WP q_Pr (D + 4)) P 161 [] [] M14 0 0)))))))))))))) := fun hm => by
    rw [ww]
    refine C_43 (d := D + 3) h (by omega) (by omega) (fun M1 f1 h1 => ⟨h1.1.1.2.1.1, C_45 (d := D + 2) (C_go_po h1) (by decide) (fun M2 f2 h2 => ⟨C_po_k h2, ?_⟩)⟩)
    have l2 := lbC_o (T := yT tp) (w := 40) (o := (o : Int)) (lbC_0 (s := 0) (i := i + 1) (C := C) (by omega))
    refine cRg (fun q => h50 ?_) h50b l2 h2 (fun M3 f3 h3 => ⟨C_po_k h3, C_44 (d := D + 2) h3 (by decide) (fun M4 f4 h4 => ⟨C_po_k h4, ?_⟩)⟩)
    · obtain ⟨j, c, e⟩ := q
      refine Classical.byContradiction (fun no => ?_)
      have e' : (if yT tp (i + 1) = 40 then (if (o : Int) < 6 then (Sum.inl (i + 1 + 1, []) : gR) else .inr (4, i + 1)) else .inr (1, i + 1)) = .inl (j, c) := e
      split at e'
      · rw [if_neg (by omega)] at e'; exact absurd e' (by simp)
      · exact absurd e' (by simp)
    · have l4 := lbC_w (T := yT tp) (w := 44) (lbC_p hl l2)
      refine cRg (fun q => h50 ?_) h50b l4 h4 (fun M5 f5 h5 => ⟨C_po_k h5, C_44 (d := D + 2) h5 (by decide) (fun M6 f6 h6' => ?_)⟩)
      · refine Classical.byContradiction (fun no => ?_)
        obtain ⟨j, c, e⟩ := q
        obtain ⟨j1, c1, q1, _⟩ := gB_inl e
        obtain ⟨j2, c2, q2, _⟩ := gB_inl q1
        have e' : (if yT tp (i + 1) = 40 then (if (o : Int) < 6 then (Sum.inl (i + 1 + 1, []) : gR) else .inr (4, i + 1)) else .inr (1, i + 1)) = .inl (j2, c2) := q2
        split at e'
        · rw [if_neg (by omega)] at e'; exact absurd e' (by simp)
        · exact absurd e' (by simp)
      · have ss := C_po_s h6'
        rw [ss.1]
        refine ⟨C_po_k h6', ss.2, C_54' (d := D + 3) h6' (lbC_w (lbC_p hl l4)) (fun M7 f7 h7 => s_52_161 (K M7 (fr_trans f1 (fr_trans f2 (fr_trans f3 (fr_trans f4 (fr_trans f5 (fr_trans f6 f7)))))) ?_))⟩
        have eg : gPart (yT tp) (yD5 tp) p full i = gB (gB (gB (gB (gB (gB (Sum.inl (i + 1, [])) fun j c => if yT tp j = 40 then (if (o : Int) < 6 then .inl (j + 1, c) else .inr (4, j)) else .inr (1, j)) fun j c => gB (p j) fun j2 c2 => .inl (j2, c ++ c2)) fun j c => if yT tp j = 44 then .inl (j + 1, c) else .inr (1, j)) fun j c => gB (p j) fun j2 c2 => .inl (j2, c ++ c2)) fun j c => if yT tp j = 41 then .inl (j + 1, c) else .inr (1, j)) fun j c => .inl (j, c ++ [yT tp i]) := by
          have b1 : gB (Sum.inl (i + 1, [])) (fun j c => if yT tp j = 40 then (if (o : Int) < 6 then .inl (j + 1, c) else .inr (4, j)) else .inr (1, j)) = (if yT tp (i + 1) = 40 then (if (o : Int) < 6 then (Sum.inl (i + 2, []) : gR) else .inr (4, i + 1)) else .inr (1, i + 1)) := rfl
          rw [b1]
          unfold gPart
          rw [if_neg (by omega), if_pos hm]
          by_cases h40 : yT tp (i + 1) = 40
          · rw [if_pos h40, if_pos h40]
            by_cases o6 : o < 6
            · rw [if_neg (fun q => hf.mp q o6), if_pos (ho6.mpr o6)]
              cases e1 : p (i + 2) with
              | inr f => simp only [gB, e1]
              | inl x =>
                by_cases e44 : yT tp x.1 = 44
                · simp only [gB, e1, List.nil_append, if_pos e44]
                  cases e2 : p (x.1 + 1) with
                  | inr f => rfl
                  | inl y =>
                    by_cases e41 : yT tp y.1 = 41
                    · simp only [if_pos e41]
                    · simp only [if_neg e41]
                · simp only [gB, e1, List.nil_append, if_neg e44]
            · rw [if_pos (hf.mpr o6), if_neg (fun q => o6 (ho6.mp q))]
              rfl
          · rw [if_neg h40, if_neg h40]
            rfl
        rw [eg]; exact h7
  refine q_enter (s_52_0 ⟨fun _ => ?_, fun z => absurd z (by omega)⟩)
  rw [k4, s1, s2, h.2.2.2.1]
  have a53 : ¬ (15 ≤ yT tp i ∧ yT tp i ≤ 21) → ¬ 1000 ≤ yT tp i → q_At q_m52 (q_WP q_Pr (D + 4)) P 53 [(0, .inr (.inr r)), (1, .inl (o : Int))] [] M 0 0 := fun n1 n2 => by
    refine s_52_53 ?_
    rw [k4, h.2.2.2.1]
    refine ⟨rfl, fun n40 => ⟨rfl, fun e22 => ⟨rfl, rfl, ?_⟩, fun n22 => ⟨rfl, fun n23 => ⟨rfl, C_42 (d := D + 3) h (by decide) (fun M1 f1 h1 _ => s_52_161 (K M1 f1 ?_))⟩, fun e23 => ⟨rfl, rfl, ?_⟩⟩⟩, fun e40 => ⟨rfl, ?_⟩⟩
    · exact mm (Or.inl e22)
    · unfold gPart
      rw [if_neg n40, if_neg (by omega), if_neg n1, if_neg n2]; exact h1
    · exact mm (Or.inr e23)
    · rw [ww]
      refine C_45 (d := D + 2) (C_go_po h) (by decide) (fun M2 f2 h2 => ⟨C_po_k h2, ?_⟩)
      have l2 := lbC_o (T := yT tp) (w := 40) (o := (o : Int)) (lbC_0 (s := 0) (i := i) (C := C) (by omega))
      refine cRg (fun q => h50 ?_) h50b l2 h2 (fun M3 f3 h3 => ⟨C_po_k h3, C_44 (d := D + 2) h3 (by decide) (fun M4 f4 h4 => s_52_161 (K M4 (fr_trans f2 (fr_trans f3 f4)) ?_))⟩)
      · obtain ⟨j, c, e⟩ := q
        refine Classical.byContradiction (fun no => ?_)
        have e' : (if yT tp i = 40 then (if (o : Int) < 6 then (Sum.inl (i + 1, []) : gR) else .inr (4, i)) else .inr (1, i)) = .inl (j, c) := e
        rw [if_pos e40, if_neg (by omega)] at e'
        exact absurd e' (by simp)
      · have b1 : gB (Sum.inl (i, [])) (fun j c => if yT tp j = 40 then (if (o : Int) < 6 then .inl (j + 1, c) else .inr (4, j)) else .inr (1, j)) = (if yT tp i = 40 then (if (o : Int) < 6 then (Sum.inl (i + 1, []) : gR) else .inr (4, i)) else .inr (1, i)) := rfl
        rw [b1, if_pos e40] at h4
        unfold gPart
        rw [if_pos e40]
        by_cases o6 : o < 6
        · rw [if_neg (fun q => hf.mp q o6)]
          rw [if_pos (ho6.mpr o6)] at h4
          cases e1 : p (i + 1) with
          | inr f =>
            simp only [gB, e1] at h4 ⊢
            exact h4
          | inl x =>
            simp only [gB, e1, List.nil_append] at h4 ⊢
            exact h4
        · rw [if_pos (hf.mpr o6)]
          rw [if_neg (fun q => o6 (ho6.mp q))] at h4
          exact h4
  refine ⟨rfl, fun z => ⟨rfl, rfl, rfl, pl (by omega) (Or.inr z)⟩, fun z => ⟨rfl, fun y => a53 (by omega) (by omega), fun y => ⟨rfl, fun x => a53 (by omega) (by omega), fun x => ⟨rfl, rfl, rfl, pl y (Or.inl x)⟩⟩⟩⟩
theorem c_50S {tp : List Int} {r : Int} {n : Nat} : ∀ m D o : Nat, o + (m + 1) = 7 → cRd tp r n 50 (D + 3 * m + 7) (o : Int) (gSum (yT tp) (yD5 tp) (m + 1)) := by
  intro m
  induction m with
  | zero =>
    intro D o ho
    exact c_50 (D := D + 4) (gL1_ln (gPart_ln (gSum_ln 0))) (c_51 (D := D + 3) (gPart_ln (gSum_ln 0)) (c_52 (D := D) ⟨fun _ => by omega, fun _ => rfl⟩ (by omega) (gSum_ln 0) (fun q => absurd q (by omega)) (c_50b D _)))
  | succ m ih =>
    intro D o ho
    have q := ih D (o + 1) (by omega)
    rw [show D + 3 * (m + 1) + 7 = (D + 3 * m + 3) + 7 by omega]
    refine c_50 (D := D + 3 * m + 3 + 4) (gL1_ln (gPart_ln (gSum_ln (m + 1)))) (c_51 (D := D + 3 * m + 3 + 3) (gPart_ln (gSum_ln (m + 1))) (c_52 (D := D + 3 * m + 3) (by rw [decide_eq_true_eq]; omega) (by omega) (gSum_ln (m + 1)) (fun _ => ?_) (c_50b (D + 3 * m + 3) _)))
    exact q
end
