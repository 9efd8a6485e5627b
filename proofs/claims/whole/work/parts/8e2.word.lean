section
theorem joi_self {WL : Int → List Int} {w : Int} (h : 0 ≤ w) : joi WL w w = WL w := by
  unfold joi fro; rw [if_neg (by omega)]; exact ons_rst _
/-- a word may come -/
def okA (nw : Int) (WL : Int → List Int) (tp : List Int) : Prop := nw < 30 ∧ okw tp ∧ ∀ w, 0 ≤ w → w < nw → WL w ≠ tp
theorem C_W1_nw {M M' : qM} {nw w : Int} {l : List Int} (h : C_W1 M w l) (hl : l.length ≤ 8) (hw : w < nw) (k : ∀ a j, 4 ≤ a → a ≤ 11 → (a = 4 → j < nw * 8) → (a ≠ 4 → j < nw) → q_nm M' a j = q_nm M a j) : C_W1 M' w l :=
  C_W1_fr h hl (fun j p q => k 4 j (by omega) (by omega) (fun _ => by omega) (fun z => absurd rfl z)) (fun a p q => k a w (by omega) (by omega) (fun z => by omega) (fun _ => hw))
theorem c_80e {d : Nat} {P : Int → qM → Prop} {M0 M : qM} {nw so se oo : Int} {WL : Int → List Int} {WS WE WO : Int → Int} {tp : List Int} {c s : Nat} (hl : q_lay M) (hW : C_W nw WL WS WE WO M) (g : G_W nw WL WS WE WO) (hn : nw < 30) (hk : okw tp) (hN : C_W1 M nw tp) (hf : fr (fun a _ => 3 ≤ a ∧ a ≤ 11) M0 M)
    (K1 : okA nw WL tp → ∀ M', fr (fun a _ => 3 ≤ a ∧ a ≤ 11) M0 M' → C_W (nw + 1) (fup WL nw tp) (fup WS nw so) (fup WE nw se) (fup WO nw oo) M' → P nw M')
    (K0 : ¬ okA nw WL tp → P (-1) M) : ∀ (k : Nat) (y : Int), 0 ≤ y → y + k = nw → (∀ w, 0 ≤ w → w < y → WL w ≠ tp) → q_At q_m80 (q_WP q_Pr (d + 1)) P 103 [(0, .inr (.inr 3)), (2, .inl so), (3, .inl se), (4, .inl oo), (5, .inl y)] [] M c s := by
  have gn := g.1
  have h8 := hk.1
  intro k
  induction k with
  | zero =>
    intro y h0 h1 h2
    refine t_80_103 hl ?_
    rw [hW.1.1]
    refine ⟨fun _ => ⟨by omega, fun M1 e1 l1 => ?_⟩, fun z => absurd z (by omega)⟩
    have a1 : q_nm M1 3 9 = nw := (wn_ne e1 (by omega)).trans hW.1.1
    rw [a1]
    refine ⟨by omega, fun M2 e2 l2 => ?_⟩
    have a2 : q_nm M2 3 9 = nw := (wn_ne e2 (by omega)).trans a1
    rw [a2]
    refine ⟨by omega, fun M3 e3 l3 => ?_⟩
    have a3 : q_nm M3 3 9 = nw := (wn_ne e3 (by omega)).trans a2
    rw [a3, w32_id (x := nw + 1) (by omega) (by omega)]
    intro M4 e4 l4
    rw [wn_eq e4, w32_id (x := nw + 1 - 1) (by omega) (by omega), show nw + 1 - 1 = nw by omega]
    have ne : ∀ a j, ¬ (a = 3 ∧ j = 9) → ¬ (a = 7 ∧ j = nw) → ¬ (a = 8 ∧ j = nw) → ¬ (a = 9 ∧ j = nw) → q_nm M4 a j = q_nm M a j := fun a j p q r t => by rw [wn_ne e4 p, wn_ne e3 t, wn_ne e2 r, wn_ne e1 q]
    have f4 : fr (fun a _ => 3 ≤ a ∧ a ≤ 11) M M4 := fr_trans (fr_wn e1 ⟨by omega, by omega⟩) (fr_trans (fr_wn e2 ⟨by omega, by omega⟩) (fr_trans (fr_wn e3 ⟨by omega, by omega⟩) (fr_wn e4 ⟨by omega, by omega⟩)))
    refine K1 ⟨hn, hk, fun w p q => h2 w p (by omega)⟩ M4 (fr_trans hf f4) ⟨⟨wn_eq e4, fun i hi => (ne 12 i (by omega) (by omega) (by omega) (by omega)).trans (hW.1.2 i hi)⟩, fun w p q => ?_⟩
    by_cases e : w = nw
    · subst e
      rw [fup_eq, fup_eq, fup_eq, fup_eq]
      refine ⟨⟨q_L_fr hN.1 (fun j _ _ => ne 4 j (by omega) (by omega) (by omega) (by omega)), (ne 5 _ (by omega) (by omega) (by omega) (by omega)).trans hN.2.1, (ne 6 _ (by omega) (by omega) (by omega) (by omega)).trans hN.2.2.1, (ne 10 _ (by omega) (by omega) (by omega) (by omega)).trans hN.2.2.2.1, (ne 11 _ (by omega) (by omega) (by omega) (by omega)).trans hN.2.2.2.2⟩, ?_, ?_, ?_⟩
      · rw [wn_ne e4 (by omega), wn_ne e3 (by omega), wn_ne e2 (by omega)]; exact wn_eq e1
      · rw [wn_ne e4 (by omega), wn_ne e3 (by omega)]; exact wn_eq e2
      · rw [wn_ne e4 (by omega)]; exact wn_eq e3
    · have o := hW.2 w p (by omega)
      have o8 := (g.2.1 w p (by omega)).1.1.2
      rw [fup_ne e, fup_ne e, fup_ne e, fup_ne e]
      exact ⟨C_W1_fr o.1 o8 (fun j _ _ => ne 4 j (by omega) (by omega) (by omega) (by omega)) (fun a _ _ => ne a w (by omega) (by omega) (by omega) (by omega)), (ne 7 _ (by omega) (by omega) (by omega) (by omega)).trans o.2.1, (ne 8 _ (by omega) (by omega) (by omega) (by omega)).trans o.2.2.1, (ne 9 _ (by omega) (by omega) (by omega) (by omega)).trans o.2.2.2⟩
  | succ k ih =>
    intro y h0 h1 h2
    refine t_80_103 hl ?_
    rw [hW.1.1]
    refine ⟨fun z => absurd z (by omega), fun _ => ?_⟩
    have oy := hW.2 y h0 (by omega)
    have gy := (g.2.1 y h0 (by omega)).1
    have ky : C_ok M (fup WL nw tp) y := by
      unfold C_ok; rw [fup_ne (by omega)]; exact ⟨by omega, oy.1, gy⟩
    have kn : C_ok M (fup WL nw tp) nw := by
      unfold C_ok; rw [fup_eq]; exact ⟨by omega, hN, hk⟩
    refine c_86 (WL := fup WL nw tp) hl hW.1.2 (Or.inr ky) ky ⟨hl, ?_⟩
    rw [hW.1.1]
    refine c_86 (WL := fup WL nw tp) hl hW.1.2 (Or.inr kn) kn ⟨hl, ?_⟩
    rw [joi_self h0, joi_self gn.1, fup_eq, fup_ne (by omega), w32_id (x := y + 1) (by omega) (by omega)]
    refine ⟨fun z => ih (y + 1) (by omega) (by omega) (fun w p q => ?_), fun z => K0 (fun q => ?_)⟩
    · by_cases e : w = y
      · subst e; intro e2; rw [e2] at z; exact q_lc_nz z rfl
      · exact h2 w p (by omega)
    · exact q.2.2 y h0 (by omega) (key_inj gy.1.2 gy.2 hk.1.2 hk.2 (q_lc_z z))
theorem c_80l {d : Nat} {P : Int → qM → Prop} {M0 : qM} {nw so se oo : Int} {WL : Int → List Int} {WS WE WO : Int → Int} {tp : List Int} {c s : Nat} (hl : q_lay M0) (hT : C_T tp M0) (gT : G_T tp) (hW : C_W nw WL WS WE WO M0) (g : G_W nw WL WS WE WO) (hn : nw < 30) (h8 : 1 ≤ tp.length ∧ tp.length ≤ 8)
    (K1 : okA nw WL tp → ∀ M', fr (fun a _ => 3 ≤ a ∧ a ≤ 11) M0 M' → C_W (nw + 1) (fup WL nw tp) (fup WS nw so) (fup WE nw se) (fup WO nw oo) M' → P nw M')
    (K0 : ¬ okA nw WL tp → ∀ M', fr (fun a _ => 3 ≤ a ∧ a ≤ 11) M0 M' → C_W nw WL WS WE WO M' → P (-1) M') : ∀ (k : Nat) (y : Int) (M : qM), 0 ≤ y → y + k = tp.length → (∀ i, 0 ≤ i → i < y → 97 ≤ tb tp i ∧ tb tp i ≤ 122) → fr (fun a j => a = 4 ∧ nw * 8 ≤ j) M0 M → q_L M 4 (nw * 8) (slice tp 0 y) → q_At q_m80 (q_WP q_Pr (d + 3)) P 31 [(0, .inr (.inr 3)), (1, .inr (.inr 1)), (2, .inl so), (3, .inl se), (4, .inl oo), (5, .inl y)] [] M c s := by
  have gn := g.1
  intro k
  have old : ∀ M : qM, (∀ a j, 3 ≤ a → a ≤ 12 → (a = 4 → j < nw * 8) → (a = 5 ∨ a = 6 ∨ a = 10 ∨ a = 11 → j < nw) → q_nm M a j = q_nm M0 a j) → C_W nw WL WS WE WO M := fun M hf => by
    refine ⟨⟨(hf 3 9 (by omega) (by omega) (by omega) (by omega)).trans hW.1.1, fun i hi => (hf 12 i (by omega) (by omega) (by omega) (by omega)).trans (hW.1.2 i hi)⟩, fun w p q => ?_⟩
    have o := hW.2 w p q
    have o8 := (g.2.1 w p q).1.1.2
    exact ⟨C_W1_fr o.1 o8 (fun j _ _ => hf 4 j (by omega) (by omega) (by omega) (by omega)) (fun a _ _ => hf a w (by omega) (by omega) (by omega) (by omega)), (hf 7 _ (by omega) (by omega) (by omega) (by omega)).trans o.2.1, (hf 8 _ (by omega) (by omega) (by omega) (by omega)).trans o.2.2.1, (hf 9 _ (by omega) (by omega) (by omega) (by omega)).trans o.2.2.2⟩
  induction k with
  | zero =>
    intro y M h0 h1 h2 hf h3
    have hT' : C_T tp M := C_T_fr hT (fun j => ⟨hf.2 1 j (by dsimp only; omega), hf.2 2 j (by dsimp only; omega)⟩)
    have e9 : q_nm M 3 9 = nw := (hf.2 3 9 (by dsimp only; omega)).trans hW.1.1
    rw [show y = (tp.length : Int) by omega, slice_all] at h3
    refine t_80_31 (d := d + 1) (fr_lay hf hl) ?_
    rw [hT'.1, e9]
    refine ⟨fun _ => ⟨by omega, fun M1 e1 l1 => ?_⟩, fun z => absurd z (by omega)⟩
    rw [(wn_ne e1 (by omega)).trans e9]
    have hk : okw tp := ⟨h8, fun b hb => by
      rcases List.getElem_of_mem hb with ⟨i, hi, e⟩
      have := h2 i (by omega) (by omega)
      rw [tb_in (by omega) (by omega), show ((i : Int)).toNat = i by omega, getD_el hi, e] at this
      exact this⟩
    refine c_81 l1 (by omega) (q_L_fr h3 (fun j _ _ => wn_ne e1 (by omega))) hk (wn_eq e1) (fun M2 f2 c2 => ⟨fr_lay f2 l1, ?_⟩)
    have ft : fr (fun a _ => 3 ≤ a ∧ a ≤ 11) M0 M2 := fr_trans (fr_mono hf (fun a j z => by omega)) (fr_trans (fr_wn e1 ⟨by omega, by omega⟩) (fr_mono f2 (fun a j z => by omega)))
    have c0 : C_W nw WL WS WE WO M2 := old M2 (fun a j p q r t => by rw [f2.2 a j (by dsimp only; omega), wn_ne e1 (by omega), hf.2 a j (by dsimp only; omega)])
    exact c_80e (d := d + 2) (fr_lay f2 l1) c0 g hn hk c2 ft K1 (fun z => K0 z M2 ft c0) nw.toNat 0 (Int.le_refl 0) (by omega) (fun w p q => absurd p (by omega))
  | succ k ih =>
    intro y M h0 h1 h2 hf h3
    have hT' : C_T tp M := C_T_fr hT (fun j => ⟨hf.2 1 j (by dsimp only; omega), hf.2 2 j (by dsimp only; omega)⟩)
    have e9 : q_nm M 3 9 = nw := (hf.2 3 9 (by dsimp only; omega)).trans hW.1.1
    have hl3 := slice_len (tp := tp) (f := 0) (n := y) (Int.le_refl 0) h0 (by omega)
    refine t_80_31 (d := d + 1) (fr_lay hf hl) ?_
    rw [hT'.1, e9, C_T_B hT', w32_id (x := y + 1) (by omega) (by omega), w32_id (x := nw * 8) (by omega) (by omega), w32_id (x := nw * 8 + y) (by omega) (by omega)]
    refine ⟨fun z => absurd z (by omega), fun _ => ⟨by omega, fun z => ⟨by omega, by omega, fun M1 e1 l1 => ?_⟩, fun z => ?_⟩⟩
    · rw [w8_small (by omega) (by omega)] at e1
      refine ih (y + 1) M1 (by omega) (by omega) (fun i p q => ?_) (fr_trans hf (fr_wn e1 ⟨rfl, by omega⟩)) ?_
      · by_cases e : i = y
        · rw [e]; exact z
        · exact h2 i p (by omega)
      · rw [slice0_succ h0 (by omega)]
        refine q_L_snoc h3 (fun j _ q => wn_ne e1 (by omega)) ?_
        rw [hl3]; exact wn_eq e1
    · refine K0 (fun q => z ?_) M (fr_mono hf (fun a j z => by omega)) (old M (fun a j p q r t => hf.2 a j (by dsimp only; omega)))
      rw [tb_in h0 (by omega)]; exact q.2.1.2 _ (getD_mem (by omega))
theorem c_80 {d : Nat} {P : Int → qM → Prop} {M : qM} {nw so se oo : Int} {WL : Int → List Int} {WS WE WO : Int → Int} {tp : List Int} (hl : q_lay M) (hT : C_T tp M) (gT : G_T tp) (hW : C_W nw WL WS WE WO M) (g : G_W nw WL WS WE WO)
    (K1 : okA nw WL tp → ∀ M', fr (fun a _ => 3 ≤ a ∧ a ≤ 11) M M' → C_W (nw + 1) (fup WL nw tp) (fup WS nw so) (fup WE nw se) (fup WO nw oo) M' → P nw M')
    (K0 : ¬ okA nw WL tp → ∀ M', fr (fun a _ => 3 ≤ a ∧ a ≤ 11) M M' → C_W nw WL WS WE WO M' → P (-1) M') : q_WP q_Pr (d + 4) 80 [.inr (.inr 3), .inr (.inr 1), .inl so, .inl se, .inl oo] M P := by
  have gn := g.1
  refine q_enter (t_80_0 hl ?_)
  rw [hT.1, hW.1.1]
  refine ⟨fun z => K0 (fun q => by have := q.1; omega) M fr_rfl hW, fun z => ⟨fun y => K0 (fun q => by have := q.2.1.1; omega) M fr_rfl hW, fun y => ⟨fun x => ?_, fun x => K0 (fun q => by have := q.2.1.1; omega) M fr_rfl hW⟩⟩⟩
  exact c_80l hl hT gT hW g z (by omega) K1 K0 tp.length 0 M (Int.le_refl 0) (by omega) (fun i p q => absurd p (by omega)) fr_rfl (by rw [slice_zero]; exact q_L_nil)
def okW (nw : Int) (WL : Int → List Int) (tp : List Int) (so se oo : Int) : Prop := ((0 ≤ so ∧ so ≤ 4) ∧ (0 ≤ se ∧ se ≤ 9) ∧ 1 ≤ oo ∧ oo ≤ 99) ∧ okA nw WL tp
theorem c_99 {d : Nat} {P : Int → qM → Prop} {M : qM} {nw so se oo : Int} {WL : Int → List Int} {WS WE WO : Int → Int} {tp : List Int} (hl : q_lay M) (hT : C_T tp M) (gT : G_T tp) (hW : C_W nw WL WS WE WO M) (g : G_W nw WL WS WE WO)
    (K1 : okW nw WL tp so se oo → ∀ M', fr (fun a j => (3 ≤ a ∧ a ≤ 11) ∨ (a = 1 ∧ j = 1)) M M' → C_W (nw + 1) (fup WL nw tp) (fup WS nw so) (fup WE nw se) (fup WO nw oo) M' → q_nm M' 1 1 = 0 → P nw M')
    (K0 : ¬ okW nw WL tp so se oo → ∀ M', fr (fun a j => (3 ≤ a ∧ a ≤ 11) ∨ (a = 1 ∧ j = 1)) M M' → C_W nw WL WS WE WO M' → q_nm M' 1 1 = 0 → P (-1) M') : q_WP q_Pr (d + 5) 99 [.inr (.inr 0), .inl so, .inl se, .inl oo] M P := by
  have bad : ¬ ((0 ≤ so ∧ so ≤ 4) ∧ (0 ≤ se ∧ se ≤ 9) ∧ 1 ≤ oo ∧ oo ≤ 99) → q_At q_m99 (q_WP q_Pr (d + 4)) P 35 [(0, .inr (.inr 0)), (1, .inl so), (2, .inl se), (3, .inl oo)] [.inl (0 : Int)] M 0 0 := fun h =>
    t_99_35 hl ⟨fun _ => t_99_60 hl (fun M1 e1 l1 => K0 (fun q => h q.1) M1 (fr_wn e1 (Or.inr ⟨rfl, rfl⟩)) (C_W_fr hW (fun a j p q => wn_ne e1 (by omega))) (wn_eq e1)), fun z => absurd rfl z⟩
  refine q_enter (t_99_0 hl ⟨fun z => bad (by omega), fun z0 => ⟨fun z => bad (by omega), fun z1 => ⟨fun z => bad (by omega), fun z2 => ⟨fun z => bad (by omega), fun z3 => ⟨fun z => bad (by omega), fun z4 => ⟨fun z => bad (by omega), fun z5 => ?_⟩⟩⟩⟩⟩⟩)
  refine t_99_35 hl ⟨fun z => absurd z (by decide), fun _ => ?_⟩
  refine c_80 hl hT gT hW g (fun h M' f1 c1 => ⟨fr_lay f1 hl, t_99_60 (fr_lay f1 hl) (fun M1 e1 l1 => ?_)⟩) (fun h M' f1 c1 => ⟨fr_lay f1 hl, t_99_60 (fr_lay f1 hl) (fun M1 e1 l1 => ?_)⟩)
  · exact K1 ⟨by omega, h⟩ M1 (fr_trans (fr_mono f1 (fun a j z => Or.inl z)) (fr_wn e1 (Or.inr ⟨rfl, rfl⟩))) (C_W_fr c1 (fun a j p q => wn_ne e1 (by omega))) (wn_eq e1)
  · exact K0 (fun q => h q.2) M1 (fr_trans (fr_mono f1 (fun a j z => Or.inl z)) (fr_wn e1 (Or.inr ⟨rfl, rfl⟩))) (C_W_fr c1 (fun a j p q => wn_ne e1 (by omega))) (wn_eq e1)
end
