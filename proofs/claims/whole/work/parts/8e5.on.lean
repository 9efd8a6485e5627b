section
theorem C_N_part {M : qM} {i : Int} {NR : Int → Int} {NL : Int → List Int} (h : ∀ j, 0 ≤ j → j < i → (q_nm M 22 j = NR j ∧ C_Sp (24 + 2 * j) (25 + 2 * j) (NL j) M)) : ∀ j, 0 ≤ j → j < i → (q_nm M 22 j = NR j ∧ C_Sp (24 + 2 * j) (25 + 2 * j) (NL j) M) := h
theorem c_35l {d : Nat} {P : Int → qM → Prop} {M0 : qM} {tp : List Int} {nr : Int} {c s : Nat} (hl : q_lay M0) (hT : C_T tp M0) (g : G_T tp) (hs : sound nr tp) (K : ∀ M', fr (fun a _ => 21 ≤ a ∧ a ≤ 63) M0 M' → C_N (tb tp 0) (sNR tp) (sNL tp) M' → P 0 M') : ∀ (k i : Nat) (M : qM), (i : Int) + k = tb tp 0 → fr (fun a _ => 21 ≤ a ∧ a ≤ 63) M0 M → q_nm M 21 2 = tb tp 0 → (∀ j, 0 ≤ j → j < (i : Int) → (q_nm M 22 j = sNR tp j ∧ C_Sp (24 + 2 * j) (25 + 2 * j) (sNL tp j) M)) → q_At q_m35 (q_WP q_Pr (d + 2)) P 22 [(0, .inr (.inr 21)), (1, .inr (.inr 1)), (2, .inl (npos tp i)), (3, .inl (i : Int))] [] M c s := by
  have g1 := g.1
  have hin := (tb_m1 g 0).mp hs.1.1
  have h20 := hs.1.2
  intro k
  induction k with
  | zero =>
    intro i M e hf h21 h
    refine t_35_22 (d := d + 1) (fr_lay hf hl) ?_
    rw [h21]
    exact ⟨fun _ => K M hf ⟨h21, fun j p q => h j p (by omega)⟩, fun z => absurd z (by omega)⟩
  | succ k ih =>
    intro i M e hf h21 h
    have l := fr_lay hf hl
    have hT' : C_T tp M := C_T_fr hT (fun j => ⟨hf.2 1 j (by dsimp only; omega), hf.2 2 j (by dsimp only; omega)⟩)
    have hp := npos_le (nr := nr) (tp := tp) (by omega) i (fun j hj => hs.2.1 j (by omega))
    have hk := hs.2.1 i (by omega)
    have he := okNote_end hk
    refine t_35_22 (d := d + 1) l ?_
    rw [h21, C_T_B hT', w32_id (x := npos tp i + 1) (by omega) (by omega), w32_id (x := npos tp i + 2) (by omega) (by omega), w32_id (x := (i : Int) + 1) (by omega) (by omega)]
    refine ⟨fun z => absurd z (by omega), fun _ => ⟨C_T_le hT' g, by omega, fun M1 e1 l1 => ?_⟩⟩
    have hT1 : C_T tp M1 := C_T_fr hT' (fun j => ⟨wn_ne e1 (by omega), wn_ne e1 (by omega)⟩)
    have sp := isSpN l1 (i := (i : Int)) (by omega) (by omega)
    rw [C_T_B hT1, sp.1, w32_id (x := 2 + tb tp (npos tp i + 1)) (by omega) (by omega), w32_id (x := npos tp i + (2 + tb tp (npos tp i + 1))) (by omega) (by omega), show npos tp i + (2 + tb tp (npos tp i + 1)) = npos tp (i + 1) by show _ = npos tp i + 2 + tb tp (npos tp i + 1); omega]
    refine ⟨C_T_le hT1 g, by omega, sp.2.1, ?_⟩
    refine c_62 l1 sp.2 (by omega) hT1 g (by omega) hk.2 (fun M2 f2 c2 => ⟨fr_lay f2 l1, ?_⟩)
    refine ih (i + 1) M2 (by omega) (fr_trans hf (fr_trans (fr_wn e1 ⟨by omega, by omega⟩) (fr_mono f2 (fun a j z => by omega)))) ?_ (fun j p q => ?_)
    · rw [f2.2 21 2 (by dsimp only; omega), wn_ne e1 (by omega)]; exact h21
    · by_cases ej : j = (i : Int)
      · subst ej
        refine ⟨?_, ?_⟩
        · rw [f2.2 22 _ (by dsimp only; omega), wn_eq e1]
          show _ = tb tp (npos tp ((i : Int)).toNat)
          rw [show ((i : Int)).toNat = i by omega]
        · have e2 : sNL tp (i : Int) = slice tp (npos tp i + 2) (tb tp (npos tp i + 1)) := by
            unfold sNL; rw [show ((i : Int)).toNat = i by omega]
          rw [e2]; exact c2
      · have o := h j p (by omega)
        refine ⟨?_, C_Sp_fr o.2 ?_ (fun x => ?_)⟩
        · rw [f2.2 22 _ (by dsimp only; omega), wn_ne e1 (by omega)]; exact o.1
        · rw [f2.2 _ _ (by dsimp only; omega), wn_ne e1 (by omega)]
        · rw [f2.2 _ _ (by dsimp only; omega), wn_ne e1 (by omega)]
theorem c_35 {d : Nat} {P : Int → qM → Prop} {M : qM} {tp : List Int} {nr : Int} (hl : q_lay M) (hT : C_T tp M) (g : G_T tp) (hs : sound nr tp) (K : ∀ M', fr (fun a _ => 21 ≤ a ∧ a ≤ 63) M M' → C_N (tb tp 0) (sNR tp) (sNL tp) M' → P 0 M') : q_WP q_Pr (d + 3) 35 [.inr (.inr 21), .inr (.inr 1)] M P := by
  have hin := (tb_m1 g 0).mp hs.1.1
  have hr := tb_rng g hin.1 hin.2
  have h20 := hs.1.2
  refine q_enter (t_35_0 (d := d + 1) hl ?_)
  rw [C_T_B hT, show max 0 (min 20 (tb tp 0)) = tb tp 0 by omega]
  refine ⟨C_T_le hT g, fun M1 e1 l1 => ?_⟩
  have f1 : fr (fun a _ => 21 ≤ a ∧ a ≤ 63) M M1 := fr_wn e1 ⟨by omega, by omega⟩
  exact c_35l l1 (C_T_fr hT (fun j => ⟨wn_ne e1 (by omega), wn_ne e1 (by omega)⟩)) g hs (fun M' f2 c2 => K M' (fr_trans f1 f2) c2) (tb tp 0).toNat 0 M1 (by omega) fr_rfl (wn_eq e1) (fun j p q => absurd p (by omega))
theorem c_133 {d : Nat} {P : Int → qM → Prop} {M : qM} {tp : List Int} {nr : Int} (hl : q_lay M) (hT : C_T tp M) (g : G_T tp) (hn : q_nm M 0 3 = nr) (hr : 0 ≤ nr ∧ nr ≤ 12)
    (K1 : sound nr tp → ∀ M', fr (fun a j => (21 ≤ a ∧ a ≤ 63) ∨ (a = 1 ∧ j = 1)) M M' → C_N (tb tp 0) (sNR tp) (sNL tp) M' → q_nm M' 1 1 = 0 → P 1 M')
    (K0 : ¬ sound nr tp → ∀ M', fr (fun a j => a = 1 ∧ j = 1) M M' → q_nm M' 1 1 = 0 → P 0 M') : q_WP q_Pr (d + 5) 133 [.inr (.inr 0)] M P := by
  refine q_enter (t_133_0 hl ?_)
  rw [hn]
  refine c_39 hl hT g hr (fun h => ⟨hl, fun z => absurd z (by decide), fun _ => ?_⟩) (fun h => ⟨hl, fun _ M1 e1 l1 => ⟨by omega, K0 h M1 (fr_wn e1 ⟨rfl, rfl⟩) (wn_eq e1)⟩, fun z => absurd rfl z⟩)
  refine c_35 (d := d + 1) hl hT g h (fun M' f1 c1 => ⟨fr_lay f1 hl, fun M1 e1 l1 => ⟨by omega, K1 h M1 ?_ ?_ (wn_eq e1)⟩⟩)
  · exact fr_trans (fr_mono f1 (fun a j z => Or.inl z)) (fr_wn e1 (Or.inr ⟨rfl, rfl⟩))
  · exact C_N_fr h.1.2 c1 (fun a j p q => wn_ne e1 (by omega))
end
