section
theorem r_233l {d : Nat} {P : Int → qM → Prop} {M0 : qM} {sd : List Int} {nn : Int} {c s : Nat} (hl : q_lay M0) (hS : R_S sd M0) (hN : q_nm M0 66 73 = nn) (hn : 0 ≤ nn ∧ nn < 20) (hd : sd.length ≤ 100) (K : ∀ M', fr (fun a j => (a = 122 ∧ 104 * nn ≤ j ∧ j < 104 * nn + 104) ∨ (a = 66 ∧ j = 73)) M0 M' → q_L M' 122 (104 * nn) sd → q_nm M' 66 73 = nn + 1 → P (nn + 1) M') : ∀ (k : Nat) (y : Int) (M : qM), 0 ≤ y → y + k = sd.length → fr (fun a j => a = 122 ∧ 104 * nn ≤ j ∧ j < 104 * nn + 104) M0 M → q_L M 122 (104 * nn) (slice sd 0 y) → q_At q_m233 (q_WP q_Pr d) P 51 [(0, .inr (.inr 66)), (2, .inl y)] [] M c s := by
  intro k
  induction k with
  | zero =>
    intro y M h0 h1 h2 h3
    refine t_233_51 (fr_lay h2 hl) ?_
    rw [h2.2 66 71 (by dsimp only; omega), h2.2 66 73 (by dsimp only; omega), hS.1, hN]
    refine ⟨fun _ M1 e1 l1 => ?_, fun z => absurd z (by omega)⟩
    have e : q_nm M1 66 73 = nn + 1 := (wn_eq e1).trans (w32_id (by omega) (by omega))
    rw [e]
    rw [show y = (sd.length : Int) by omega, slice_all] at h3
    exact K M1 (fr_trans (fr_mono h2 (fun a j z => Or.inl z)) (fr_wn e1 (Or.inr ⟨rfl, rfl⟩))) (q_L_fr h3 (fun j _ _ => wn_ne e1 (by omega))) e
  | succ k ih =>
    intro y M h0 h1 h2 h3
    refine t_233_51 (fr_lay h2 hl) ?_
    rw [h2.2 66 71 (by dsimp only; omega), h2.2 66 73 (by dsimp only; omega), hS.1, hN, w32_id (x := y + 1) (by omega) (by omega), w32_id (x := 104 * nn) (by omega) (by omega), w32_id (x := 104 * nn + y) (by omega) (by omega)]
    refine ⟨fun z => absurd z (by omega), fun _ => ⟨by omega, by omega, fun M1 e1 l1 => ih (y + 1) M1 (by omega) (by omega) (fr_trans h2 (fr_wn e1 ⟨rfl, by omega, by omega⟩)) ?_⟩⟩
    have hl3 := slice_len (tp := sd) (f := 0) (n := y) (Int.le_refl 0) h0 (by omega)
    rw [slice0_succ h0 (by omega)]
    refine q_L_snoc h3 (fun j _ z => wn_ne e1 (by omega)) ?_
    rw [hl3, wn_eq e1, h2.2 119 y (by dsimp only; omega), tb_in h0 (by omega)]
    exact q_L_get0 hS.2 h0 (by omega)
theorem r_233 {d : Nat} {P : Int → qM → Prop} {M : qM} {nr nn r : Int} {NR : Int → Int} {NL : Int → List Int} {sd : List Int} (hl : q_lay M) (hr : q_nm M 66 40 = nr) (hr2 : 0 ≤ nr ∧ nr ≤ 12) (hN : R_N nn NR NL M) (g : G_N nr nn NR NL) (hS : R_S sd M) (hd : sd.length ≤ 100)
    (K1 : (0 ≤ r ∧ r < nr) ∧ sd.length ≠ 0 ∧ nn < 20 → ∀ M', fr (fun a j => (120 ≤ a ∧ a ≤ 122) ∨ (a = 66 ∧ j = 73)) M M' → R_N (nn + 1) (fup NR nn r) (fup NL nn sd) M' → P (nn + 1) M')
    (K0 : ¬ ((0 ≤ r ∧ r < nr) ∧ sd.length ≠ 0 ∧ nn < 20) → P (-1) M) : q_WP q_Pr (d + 3) 233 [.inr (.inr 66), .inl r] M P := by
  have gn := g.1
  refine q_enter (t_233_0 hl ?_)
  rw [hr, hN.1, hS.1]
  refine ⟨hr2, fun z => ⟨fun y => K0 (by omega), fun y => ⟨fun q => ⟨by omega, fun M1 e1 l1 => ?_⟩, fun q => K0 (by omega)⟩⟩, fun z => K0 (fun w => z w.1)⟩
  have e73 : q_nm M1 66 73 = nn := (wn_ne e1 (by omega)).trans hN.1
  have e71 : q_nm M1 66 71 = sd.length := (wn_ne e1 (by omega)).trans hS.1
  rw [e73, e71]
  refine ⟨by omega, fun M2 e2 l2 => ?_⟩
  refine r_233l l2 (sd := sd) (nn := nn) ⟨(wn_ne e2 (by omega)).trans e71, q_L_fr (q_L_fr hS.2 (fun j _ _ => wn_ne e1 (by omega))) (fun j _ _ => wn_ne e2 (by omega))⟩ ((wn_ne e2 (by omega)).trans e73) (by omega) hd (fun M3 f3 q3 e3 => K1 ⟨z, by omega, by omega⟩ M3 ?_ ⟨e3, fun i h0 h1 => ?_⟩) sd.length 0 M2 (Int.le_refl 0) (by omega) fr_rfl (by rw [slice_zero]; exact q_L_nil)
  · exact fr_trans (fr_wn e1 (Or.inl (by omega))) (fr_trans (fr_wn e2 (Or.inl (by omega))) (fr_mono f3 (fun a j z => by omega)))
  · by_cases e : i = nn
    · subst e
      rw [fup_eq, fup_eq]
      refine ⟨?_, ?_, q3⟩
      · rw [f3.2 120 i (by dsimp only; omega), wn_ne e2 (by omega)]; exact wn_eq e1
      · rw [f3.2 121 i (by dsimp only; omega)]; exact wn_eq e2
    · rw [fup_ne e, fup_ne e]
      have o := hN.2 i h0 (by omega)
      have o2 := (g.2 i h0 (by omega)).2.2.1
      refine ⟨?_, ?_, q_L_fr o.2.2 (fun j _ _ => ?_)⟩
      · rw [f3.2 120 i (by dsimp only; omega), wn_ne e2 (by omega), wn_ne e1 (by omega)]; exact o.1
      · rw [f3.2 121 i (by dsimp only; omega), wn_ne e2 (by omega), wn_ne e1 (by omega)]; exact o.2.1
      · rw [f3.2 122 j (by dsimp only; omega), wn_ne e2 (by omega), wn_ne e1 (by omega)]
theorem r_235l {d : Nat} {P : Int → qM → Prop} {M0 : qM} {l : List Int} {n : Int} {c s : Nat} (hl : q_lay M0) (hN : q_L M0 122 (104 * n) l) (hS : q_nm M0 66 71 = l.length) (hn : 0 ≤ n ∧ n < 20) (hd : l.length ≤ 100) (K : ∀ M', fr (fun a _ => a = 119) M0 M' → q_L M' 119 0 l → P (q_nm M' 120 n) M') : ∀ (k : Nat) (y : Int) (M : qM), 0 ≤ y → y + k = l.length → fr (fun a _ => a = 119) M0 M → q_L M 119 0 (slice l 0 y) → q_At q_m235 (q_WP q_Pr d) P 30 [(0, .inr (.inr 66)), (1, .inl n), (2, .inl y)] [] M c s := by
  intro k
  induction k with
  | zero =>
    intro y M h0 h1 h2 h3
    refine t_235_30 (fr_lay h2 hl) ?_
    rw [h2.2 66 71 (by dsimp only; omega), hS]
    rw [show y = (l.length : Int) by omega, slice_all] at h3
    exact ⟨fun _ => ⟨by omega, K M h2 h3⟩, fun z => absurd z (by omega)⟩
  | succ k ih =>
    intro y M h0 h1 h2 h3
    refine t_235_30 (fr_lay h2 hl) ?_
    rw [h2.2 66 71 (by dsimp only; omega), hS, w32_id (x := y + 1) (by omega) (by omega), w32_id (x := 104 * n) (by omega) (by omega), w32_id (x := 104 * n + y) (by omega) (by omega)]
    refine ⟨fun z => absurd z (by omega), fun _ => ⟨by omega, by omega, fun M1 e1 l1 => ih (y + 1) M1 (by omega) (by omega) (fr_trans h2 (fr_wn e1 rfl)) ?_⟩⟩
    have hl3 := slice_len (tp := l) (f := 0) (n := y) (Int.le_refl 0) h0 (by omega)
    rw [slice0_succ h0 (by omega)]
    refine q_L_snoc h3 (fun j _ z => wn_ne e1 (by omega)) ?_
    rw [Int.zero_add, hl3, wn_eq e1, h2.2 122 _ (by dsimp only; omega), tb_in h0 (by omega)]
    exact q_L_get hN h0 (by omega)
theorem r_235 {d : Nat} {P : Int → qM → Prop} {M : qM} {nr nn k : Int} {NR : Int → Int} {NL : Int → List Int} (hl : q_lay M) (hN : R_N nn NR NL M) (g : G_N nr nn NR NL)
    (K1 : 0 ≤ k ∧ k < nn → ∀ M', fr (fun a j => (a = 66 ∧ j = 71) ∨ a = 119) M M' → R_S (NL k) M' → P (NR k) M')
    (K0 : ¬ (0 ≤ k ∧ k < nn) → P (-1) M) : q_WP q_Pr (d + 2) 235 [.inr (.inr 66), .inl k] M P := by
  have gn := g.1
  refine q_enter (t_235_0 hl ?_)
  rw [hN.1, w32_id (x := nn - 1) (by omega) (by omega)]
  refine ⟨fun z => ⟨by omega, fun M1 e1 l1 => ?_⟩, fun z => K0 (by omega)⟩
  have o := hN.2 k z.1 (by omega)
  rw [o.2.1] at e1
  refine r_235l l1 (l := NL k) (q_L_fr o.2.2 (fun j _ _ => wn_ne e1 (by omega))) (wn_eq e1) (by omega) (g.2 k z.1 (by omega)).2.2.1 (fun M2 f2 q2 => ?_) (NL k).length 0 M1 (Int.le_refl 0) (by omega) fr_rfl (by rw [slice_zero]; exact q_L_nil)
  rw [f2.2 120 k (by dsimp only; omega), wn_ne e1 (by omega), o.1]
  exact K1 (by omega) M2 (fr_trans (fr_wn e1 (Or.inl ⟨rfl, rfl⟩)) (fr_mono f2 (fun a j z => Or.inr z))) ⟨by rw [f2.2 66 71 (by dsimp only; omega)]; exact wn_eq e1, q2⟩
end
