section
theorem r_253l {d : Nat} {P : Int → qM → Prop} {M : qM} {tp : List Int} {p n : Int} {c s : Nat} (hl : q_lay M) (hT : q_L M 67 0 tp) (g : G_T tp) (hp : 0 ≤ p) (hn : n < tp.length) (h100 : 1 ≤ tb tp (p + 1) ∧ tb tp (p + 1) ≤ 100) (he : p + 2 + tb tp (p + 1) ≤ n) (K1 : okR tp (p + 2) (tb tp (p + 1)) → P (p + 2 + tb tp (p + 1)) M) (K0 : ¬ okR tp (p + 2) (tb tp (p + 1)) → P (-1) M) : ∀ (k : Nat) (y : Int), p + 2 ≤ y → y + k = p + 2 + tb tp (p + 1) → (∀ i, p + 2 ≤ i → i < y → okc (tb tp i)) → q_At q_m253 (q_WP q_Pr (d + 1)) P 61 [(0, .inr (.inr 66)), (1, .inl p), (3, .inl y)] [] M c s := by
  have g1 := g.1
  have e1 : q_nm M 67 (p + 1) = tb tp (p + 1) := by rw [tb_in (by omega) (by omega)]; exact q_L_get0 hT (by omega) (by omega)
  intro k
  induction k with
  | zero =>
    intro y h0 h1 h2
    refine t_253_61 hl ?_
    rw [w32_id (x := p + 1) (by omega) (by omega), w32_id (x := p + 2) (by omega) (by omega), e1, w32_id (x := p + 2 + tb tp (p + 1)) (by omega) (by omega)]
    exact ⟨by omega, fun _ => ⟨by omega, K1 ⟨h100, fun i a b => h2 i a (by omega)⟩⟩, fun z => absurd z (by omega)⟩
  | succ k ih =>
    intro y h0 h1 h2
    have e2 : q_nm M 67 y = tb tp y := by rw [tb_in (by omega) (by omega)]; exact q_L_get0 hT (by omega) (by omega)
    refine t_253_61 hl ?_
    rw [w32_id (x := p + 1) (by omega) (by omega), w32_id (x := p + 2) (by omega) (by omega), e1, w32_id (x := p + 2 + tb tp (p + 1)) (by omega) (by omega), e2, w32_id (x := y + 1) (by omega) (by omega)]
    have nx : okc (tb tp y) → q_At q_m253 (q_WP q_Pr (d + 1)) P 61 [(0, .inr (.inr 66)), (1, .inl p), (3, .inl (y + 1))] [] M c s := fun ho => ih (y + 1) (by omega) (by omega) (fun i a b => by
      by_cases e : i = y
      · rw [e]; exact ho
      · exact h2 i a (by omega))
    exact ⟨by omega, fun z => absurd z (by omega), fun _ => ⟨by omega, fun z => nx (Or.inl z), fun z => ⟨by omega, fun w => nx (Or.inr w), fun w => K0 (fun q => by
      have := q.2 y h0 (by omega); unfold okc at this; omega)⟩⟩⟩
theorem r_253 {d : Nat} {P : Int → qM → Prop} {M : qM} {tp : List Int} {nr p n : Int} (hl : q_lay M) (hT : q_L M 67 0 tp) (g : G_T tp) (hr : q_nm M 66 40 = nr) (hr2 : 0 ≤ nr ∧ nr ≤ 12) (hp : 0 ≤ p ∧ p ≤ 2100) (hn : n < tp.length) (K1 : okNote nr tp p ∧ p + 2 + tb tp (p + 1) ≤ n → P (p + 2 + tb tp (p + 1)) M) (K0 : ¬ (okNote nr tp p ∧ p + 2 + tb tp (p + 1) ≤ n) → P (-1) M) : q_WP q_Pr (d + 3) 253 [.inr (.inr 66), .inl p, .inl n] M P := by
  have g1 := g.1
  refine q_enter (t_253_0 hl ?_)
  rw [w32_id (x := p + 1) (by omega) (by omega), w32_id (x := p + 2) (by omega) (by omega), hr]
  refine ⟨fun z => K0 (fun q => by have := okNote_end q.1; omega), fun z => ?_⟩
  have e0 : q_nm M 67 p = tb tp p := by rw [tb_in (by omega) (by omega)]; exact q_L_get0 hT (by omega) (by omega)
  have e1 : q_nm M 67 (p + 1) = tb tp (p + 1) := by rw [tb_in (by omega) (by omega)]; exact q_L_get0 hT (by omega) (by omega)
  have a0 := tb_rng g hp.1 (show p < tp.length by omega)
  have a1 := tb_all g (p + 1)
  rw [e0, e1, w32_id (x := p + 2 + tb tp (p + 1)) (by omega) (by omega)]
  refine ⟨by omega, hr2, fun y => ⟨by omega, fun x => ⟨by omega, fun w => ?_, fun w => K0 (fun q => by have := q.2; omega)⟩, fun x => K0 (fun q => x q.1.2.1)⟩, fun y => K0 (fun q => by have := q.1.1; omega)⟩
  exact r_253l (d := d + 1) hl hT g hp.1 hn x w (fun q => K1 ⟨⟨⟨by omega, y.2⟩, q⟩, w⟩) (fun q => K0 (fun v => q v.1.2)) (tb tp (p + 1)).toNat (p + 2) (Int.le_refl _) (by omega) (fun i a b => absurd a (by omega))
theorem r_254i {d : Nat} {P : Int → qM → Prop} {M0 : qM} {tp l : List Int} {p i : Int} {c s : Nat} (hl : q_lay M0) (hT : q_L M0 67 0 tp) (hi : 0 ≤ i ∧ i < 20) (hp : 0 ≤ p) (hlen : l.length ≤ 100) (he : p + 2 + l.length ≤ tp.length) (ht : tp.length ≤ 2100) (hL : l = slice tp (p + 2) l.length) (hs : q_nm M0 121 i = l.length) (K : ∀ M', fr (fun a j => a = 122 ∧ 104 * i ≤ j ∧ j < 104 * i + 104) M0 M' → q_L M' 122 (104 * i) l → q_At q_m254 (q_WP q_Pr d) P 104 [(0, .inr (.inr 66)), (2, .inl (p + 2 + l.length)), (3, .inl (i + 1))] [] M' c s) : ∀ (k : Nat) (y : Int) (M : qM), 0 ≤ y → y + k = l.length → fr (fun a j => a = 122 ∧ 104 * i ≤ j ∧ j < 104 * i + 104) M0 M → q_L M 122 (104 * i) (slice tp (p + 2) y) → q_At q_m254 (q_WP q_Pr d) P 141 [(0, .inr (.inr 66)), (2, .inl p), (3, .inl i), (4, .inl y)] [] M c s := by
  intro k
  induction k with
  | zero =>
    intro y M h0 h1 h2 h3
    refine t_254_141 (fr_lay h2 hl) ?_
    rw [h2.2 121 i (by dsimp only; omega), hs, w32_id (x := 2 + (l.length : Int)) (by omega) (by omega), w32_id (x := p + (2 + (l.length : Int))) (by omega) (by omega), w32_id (x := i + 1) (by omega) (by omega), show p + (2 + (l.length : Int)) = p + 2 + l.length by omega]
    rw [show y = (l.length : Int) by omega, ← hL] at h3
    exact ⟨hi, fun _ => ⟨hi, K M h2 h3⟩, fun z => absurd z (by omega)⟩
  | succ k ih =>
    intro y M h0 h1 h2 h3
    have hl3 := slice_len (tp := tp) (f := p + 2) (n := y) (by omega) h0 (by omega)
    refine t_254_141 (fr_lay h2 hl) ?_
    have e : q_nm M 67 (p + 2 + y) = tb tp (p + 2 + y) := by rw [h2.2 67 _ (by dsimp only; omega), tb_in (by omega) (by omega)]; exact q_L_get0 hT (by omega) (by omega)
    rw [h2.2 121 i (by dsimp only; omega), hs, w32_id (x := p + 2) (by omega) (by omega), w32_id (x := p + 2 + y) (by omega) (by omega), w32_id (x := 104 * i) (by omega) (by omega), w32_id (x := 104 * i + y) (by omega) (by omega), w32_id (x := y + 1) (by omega) (by omega), e]
    refine ⟨hi, fun z => absurd z (by omega), fun _ => ⟨by omega, by omega, fun M1 e1 l1 => ih (y + 1) M1 (by omega) (by omega) (fr_trans h2 (fr_wn e1 ⟨rfl, by omega, by omega⟩)) ?_⟩⟩
    rw [slice_succ (by omega) h0 (by omega)]
    refine q_L_snoc h3 (fun j _ z => wn_ne e1 (by omega)) ?_
    rw [hl3]; exact wn_eq e1
theorem r_254w {d : Nat} {P : Int → qM → Prop} {M0 : qM} {tp : List Int} {nr : Int} {c s : Nat} (hl : q_lay M0) (hT : q_L M0 67 0 tp) (g : G_T tp) (hs : sound nr tp) (K : ∀ M', fr (fun a _ => 120 ≤ a ∧ a ≤ 122) M0 M' → R_N (tb tp 0) (sNR tp) (sNL tp) M' → P 1 M') : ∀ (k i : Nat) (M : qM), (i : Int) + k = tb tp 0 → fr (fun a _ => 120 ≤ a ∧ a ≤ 122) M0 M → q_nm M 66 73 = tb tp 0 → (∀ j, 0 ≤ j → j < (i : Int) → (q_nm M 120 j = sNR tp j ∧ q_nm M 121 j = (sNL tp j).length ∧ q_L M 122 (104 * j) (sNL tp j))) → q_At q_m254 (q_WP q_Pr d) P 104 [(0, .inr (.inr 66)), (2, .inl (npos tp i)), (3, .inl (i : Int))] [] M c s := by
  have g1 := g.1
  have hin := (tb_m1 g 0).mp hs.1.1
  have h20 := hs.1.2
  have gN := sound_N g hs
  intro k
  induction k with
  | zero =>
    intro i M e hf h73 h
    refine t_254_104 (fr_lay hf hl) ?_
    rw [h73]
    exact ⟨fun _ => K M hf ⟨h73, fun j p q => h j p (by omega)⟩, fun z => absurd z (by omega)⟩
  | succ k ih =>
    intro i M e hf h73 h
    have l := fr_lay hf hl
    have hp := npos_le (nr := nr) (tp := tp) (by omega) i (fun j hj => hs.2.1 j (by omega))
    have hk := hs.2.1 i (by omega)
    have he := okNote_end hk
    have hlen := slice_len (tp := tp) (f := npos tp i + 2) (n := tb tp (npos tp i + 1)) (by omega) (by omega) (by omega)
    have hT' : q_L M 67 0 tp := q_L_fr hT (fun j _ _ => hf.2 67 j (by dsimp only; omega))
    have e0 : q_nm M 67 (npos tp i) = tb tp (npos tp i) := by rw [tb_in (by omega) (by omega)]; exact q_L_get0 hT' (by omega) (by omega)
    have e1' : q_nm M 67 (npos tp i + 1) = tb tp (npos tp i + 1) := by rw [tb_in (by omega) (by omega)]; exact q_L_get0 hT' (by omega) (by omega)
    refine t_254_104 l ?_
    rw [h73, w32_id (x := npos tp i + 1) (by omega) (by omega), e0]
    refine ⟨fun z => absurd z (by omega), fun _ => ⟨by omega, by omega, fun M1 e1 l1 => ?_⟩⟩
    rw [(wn_ne e1 (by omega)).trans e1']
    refine ⟨by omega, by omega, fun M2 e2 l2 => ?_⟩
    refine r_254i (l := slice tp (npos tp i + 2) (tb tp (npos tp i + 1))) l2 (q_L_fr hT' (fun j _ _ => by rw [wn_ne e2 (by omega), wn_ne e1 (by omega)])) (by omega) (by omega) (by omega) (by omega) g1 (by rw [hlen]) (by rw [hlen]; exact wn_eq e2) (fun M3 f3 c3 => ?_) (slice tp (npos tp i + 2) (tb tp (npos tp i + 1))).length 0 M2 (Int.le_refl 0) (by omega) fr_rfl (by rw [slice_zero]; exact q_L_nil)
    have eN : sNL tp (i : Int) = slice tp (npos tp i + 2) (tb tp (npos tp i + 1)) := by
      unfold sNL; rw [show ((i : Int)).toNat = i by omega]
    have eR : sNR tp (i : Int) = tb tp (npos tp i) := by
      unfold sNR; rw [show ((i : Int)).toNat = i by omega]
    rw [hlen]
    refine ih (i + 1) M3 (by omega) (fr_trans hf (fr_trans (fr_wn e1 ⟨by omega, by omega⟩) (fr_trans (fr_wn e2 ⟨by omega, by omega⟩) (fr_mono f3 (fun a j z => by omega))))) ?_ (fun j p q => ?_)
    · rw [f3.2 66 73 (by dsimp only; omega), wn_ne e2 (by omega), wn_ne e1 (by omega)]; exact h73
    · by_cases ej : j = (i : Int)
      · subst ej
        rw [eN, eR]
        refine ⟨?_, ?_, c3⟩
        · rw [f3.2 120 _ (by dsimp only; omega), wn_ne e2 (by omega)]; exact wn_eq e1
        · rw [f3.2 121 _ (by dsimp only; omega), hlen]; exact wn_eq e2
      · have o := h j p (by omega)
        have o2 := (gN.2 j p (by omega)).2.2.1
        refine ⟨?_, ?_, q_L_fr o.2.2 (fun x _ _ => ?_)⟩
        · rw [f3.2 120 _ (by dsimp only; omega), wn_ne e2 (by omega), wn_ne e1 (by omega)]; exact o.1
        · rw [f3.2 121 _ (by dsimp only; omega), wn_ne e2 (by omega), wn_ne e1 (by omega)]; exact o.2.1
        · rw [f3.2 122 _ (by dsimp only; omega), wn_ne e2 (by omega), wn_ne e1 (by omega)]
theorem r_254l {d : Nat} {P : Int → qM → Prop} {M : qM} {tp : List Int} {nr : Int} {c s : Nat} (hl : q_lay M) (hT : q_L M 67 0 tp) (g : G_T tp) (hr : q_nm M 66 40 = nr) (hr2 : 0 ≤ nr ∧ nr ≤ 12) (hn : 2 ≤ tp.length) (h0 : tb tp 0 ≤ 20) (K1 : sound nr tp → ∀ M', fr (fun a j => (120 ≤ a ∧ a ≤ 122) ∨ (a = 66 ∧ j = 73)) M M' → R_N (tb tp 0) (sNR tp) (sNL tp) M' → P 1 M') (K0 : ¬ sound nr tp → P 0 M) : ∀ (k i : Nat), (i : Int) + k = tb tp 0 → (∀ j : Nat, j < i → okNote nr tp (npos tp j)) → npos tp i ≤ tp.length - 1 → q_At q_m254 (q_WP q_Pr (d + 3)) P 32 [(0, .inr (.inr 66)), (1, .inl (tp.length : Int)), (2, .inl (npos tp i)), (3, .inl (i : Int))] [] M c s := by
  have g1 := g.1
  have e0 : q_nm M 67 0 = tb tp 0 := by rw [tb_in (by omega) (by omega)]; exact q_L_get0 hT (by omega) (by omega)
  have r0 := tb_rng g (Int.le_refl 0) (show (0 : Int) < tp.length by omega)
  intro k
  induction k with
  | zero =>
    intro i e h hp1
    have hp := npos_le (by omega) i h
    have ei : (tb tp 0).toNat = i := by omega
    refine t_254_32 hl ?_
    rw [e0, w32_id (x := (tp.length : Int) - 1) (by omega) (by omega)]
    refine ⟨fun _ => ⟨fun z => K0 (fun w => z (by have := w.2.2.1; rw [ei] at this; omega)), fun z => ⟨by omega, ?_⟩⟩, fun z => absurd z (by omega)⟩
    have ep : q_nm M 67 (npos tp i) = tb tp (npos tp i) := by rw [tb_in (by omega) (by omega)]; exact q_L_get0 hT (by omega) (by omega)
    refine r_250 (d := d + 2) (pc := tp) hl (lk67 hl) (by rw [ll67 hl]; omega) (fun i a b => by rw [tb_in a (by omega)]; exact q_L_get0 hT a (by omega)) g.2 (by omega) (by omega) (by omega) ⟨hl, ?_⟩
    rw [ep, e0]
    refine ⟨fun y M1 e1 l1 => ?_, fun y => K0 (fun w => y (by have := w.2.2.2; rw [ei] at this; exact this))⟩
    have hs : sound nr tp := ⟨⟨by omega, h0⟩, fun j hj => h j (by omega), by rw [ei]; omega, by rw [ei]; exact y⟩
    exact r_254w l1 (q_L_fr hT (fun j _ _ => wn_ne e1 (by omega))) g hs (fun M' f2 c2 => K1 hs M' (fr_trans (fr_wn e1 (Or.inr ⟨rfl, rfl⟩)) (fr_mono f2 (fun a j z => Or.inl z))) c2) (tb tp 0).toNat 0 M1 (by omega) fr_rfl (wn_eq e1) (fun j p q => absurd p (by omega))
  | succ k ih =>
    intro i e h hp1
    have hp := npos_le (by omega) i h
    refine t_254_32 hl ?_
    rw [e0, w32_id (x := (tp.length : Int) - 1) (by omega) (by omega), w32_id (x := (i : Int) + 1) (by omega) (by omega)]
    refine ⟨fun z => absurd z (by omega), fun _ => ?_⟩
    refine r_253 hl hT g hr hr2 (by omega) (by omega) (fun q => ⟨hl, fun _ => ?_, fun z => ?_⟩) (fun q => ⟨hl, fun z => absurd rfl z, fun _ => K0 (fun w => q ?_)⟩)
    · exact ih (i + 1) (by omega) (fun j hj => by
        by_cases e : j = i
        · rw [e]; exact q.1
        · exact h j (by omega)) (by show npos tp i + 2 + tb tp (npos tp i + 1) ≤ _; exact q.2)
    · have := okNote_end q.1; omega
    · have hw := w.2.1 i (by omega)
      refine ⟨hw, ?_⟩
      have u := npos_up (nr := nr) (tp := tp) (tb tp 0).toNat (fun j hj => w.2.1 j (by omega)) ((tb tp 0).toNat - (i + 1)) (i + 1) (by omega)
      have e2 : npos tp (i + 1) = npos tp i + 2 + tb tp (npos tp i + 1) := rfl
      have := w.2.2.1
      omega
theorem r_254 {d : Nat} {P : Int → qM → Prop} {M : qM} {tp : List Int} {nr : Int} (hl : q_lay M) (hT : R_T tp M) (g : G_T tp) (hr : q_nm M 66 40 = nr) (hr2 : 0 ≤ nr ∧ nr ≤ 12)
    (K1 : sound nr tp → ∀ M', fr (fun a j => (120 ≤ a ∧ a ≤ 122) ∨ (a = 66 ∧ (j = 73 ∨ j = 1))) M M' → R_N (tb tp 0) (sNR tp) (sNL tp) M' → q_nm M' 66 1 = 0 → P 1 M')
    (K0 : ¬ sound nr tp → ∀ M', fr (fun a j => a = 66 ∧ j = 1) M M' → q_nm M' 66 1 = 0 → P 0 M') : q_WP q_Pr (d + 4) 254 [.inr (.inr 66)] M P := by
  refine q_enter (t_254_0 hl ?_)
  rw [hT.1]
  intro M1 e1 l1
  have k0 : ¬ sound nr tp → P 0 M1 := fun h => K0 h M1 (fr_wn e1 ⟨rfl, rfl⟩) (wn_eq e1)
  have hT1 : q_L M1 67 0 tp := q_L_fr hT.2 (fun j _ _ => wn_ne e1 (by omega))
  refine ⟨fun z => k0 (fun w => ?_), fun z => ?_⟩
  · have hin := (tb_m1 g 0).mp w.1.1
    have := npos_le (nr := nr) (tp := tp) (by omega) (tb tp 0).toNat (fun j hj => w.2.1 j (by omega))
    have := w.2.2.1
    omega
  · have e0 : q_nm M1 67 0 = tb tp 0 := by rw [tb_in (by omega) (by omega)]; exact q_L_get0 hT1 (by omega) (by omega)
    have r0 := tb_rng g (Int.le_refl 0) (show (0 : Int) < tp.length by omega)
    rw [e0]
    refine ⟨fun y => ?_, fun y => k0 (fun w => by have := w.1.2; omega)⟩
    exact r_254l l1 hT1 g ((wn_ne e1 (by omega)).trans hr) hr2 (by omega) y (fun h M' f2 c2 => K1 h M' (fr_trans (fr_wn e1 (Or.inr ⟨rfl, Or.inr rfl⟩)) (fr_mono f2 (fun a j z => by omega))) c2 (by rw [f2.2 66 1 (by dsimp only; omega)]; exact wn_eq e1)) k0 (tb tp 0).toNat 0 (by omega) (fun j hj => absurd hj (Nat.not_lt_zero j)) (by show (1 : Int) ≤ _; omega)
end
