section
theorem slice0_succ {tp : List Int} {m : Int} (h1 : 0 ≤ m) (h : m < tp.length) : slice tp 0 (m + 1) = slice tp 0 m ++ [tb tp m] := by
  have e := slice_succ (tp := tp) (f := 0) (m := m) (Int.le_refl 0) h1 (by omega)
  rwa [Int.zero_add] at e
theorem r_221w {d : Nat} {P : Int → qM → Prop} {M0 : qM} {tp : List Int} {c s : Nat} (hl : q_lay M0) (hT : q_L M0 67 0 tp) (g : G_T tp) (hn : tp.length ≤ 100) (K : ∀ M', fr (fun a _ => a = 119) M0 M' → q_L M' 119 0 tp → P 1 M') : ∀ (k : Nat) (y : Int) (M : qM), 0 ≤ y → y + k = tp.length → fr (fun a _ => a = 119) M0 M → q_L M 119 0 (slice tp 0 y) → q_At q_m221 (q_WP q_Pr d) P 76 [(0, .inr (.inr 66)), (1, .inl (tp.length : Int)), (2, .inl y)] [] M c s := by
  intro k
  induction k with
  | zero =>
    intro y M h0 h1 h2 h3
    refine t_221_76 (fr_lay h2 hl) ⟨fun _ => K M h2 ?_, fun z => absurd z (by omega)⟩
    rw [show y = (tp.length : Int) by omega, slice_all] at h3
    exact h3
  | succ k ih =>
    intro y M h0 h1 h2 h3
    refine t_221_76 (fr_lay h2 hl) ?_
    rw [w32_id (x := y + 1) (by omega) (by omega)]
    refine ⟨fun z => absurd z (by omega), fun _ => ⟨by omega, by omega, fun M1 e1 l1 => ih (y + 1) M1 (by omega) (by omega) (fr_trans h2 (fr_wn e1 rfl)) ?_⟩⟩
    have hl3 := slice_len (tp := tp) (f := 0) (n := y) (Int.le_refl 0) h0 (by omega)
    rw [slice0_succ h0 (by omega)]
    refine q_L_snoc h3 (fun j _ z => wn_ne e1 (by omega)) ?_
    rw [Int.zero_add, hl3, wn_eq e1, h2.2 67 y (by dsimp only; omega), tb_in h0 (by omega)]
    exact q_L_get0 hT h0 (by omega)
theorem r_221l {d : Nat} {P : Int → qM → Prop} {M : qM} {tp : List Int} {c s : Nat} (hl : q_lay M) (hT : q_L M 67 0 tp) (g : G_T tp) (hn : 1 ≤ tp.length ∧ tp.length ≤ 100)
    (K1 : okR tp 0 tp.length → ∀ M', M' = q_wn M 66 71 tp.length → q_lay M' → q_At q_m221 (q_WP q_Pr (d + 1)) P 76 [(0, .inr (.inr 66)), (1, .inl (tp.length : Int)), (2, .inl 0)] [] M' c s) (K0 : ¬ okR tp 0 tp.length → P 0 M) : ∀ (k : Nat) (y : Int), 0 ≤ y → y + k = tp.length → (∀ i, 0 ≤ i → i < y → okc (tb tp i)) → q_At q_m221 (q_WP q_Pr (d + 1)) P 26 [(0, .inr (.inr 66)), (1, .inl (tp.length : Int)), (2, .inl y)] [] M c s := by
  intro k
  induction k with
  | zero =>
    intro y h0 h1 h2
    exact t_221_26 hl ⟨fun _ M1 e1 l1 => K1 ⟨by omega, fun i a b => h2 i a (by omega)⟩ M1 e1 l1, fun z => absurd z (by omega)⟩
  | succ k ih =>
    intro y h0 h1 h2
    refine t_221_26 hl ?_
    have e : q_nm M 67 y = tb tp y := by rw [tb_in h0 (by omega)]; exact q_L_get0 hT h0 (by omega)
    rw [w32_id (x := y + 1) (by omega) (by omega), e]
    have nx : okc (tb tp y) → q_At q_m221 (q_WP q_Pr (d + 1)) P 26 [(0, .inr (.inr 66)), (1, .inl (tp.length : Int)), (2, .inl (y + 1))] [] M c s := fun ho => ih (y + 1) (by omega) (by omega) (fun i a b => by
      by_cases e : i = y
      · rw [e]; exact ho
      · exact h2 i a (by omega))
    exact ⟨fun z => absurd z (by omega), fun _ => ⟨by omega, fun z => nx (Or.inl z), fun z => ⟨by omega, fun w => nx (Or.inr w), fun w => K0 (fun q => by
      have := q.2 y h0 (by omega); unfold okc at this; omega)⟩⟩⟩
/-- the reference hears -/
theorem r_221 {d : Nat} {P : Int → qM → Prop} {M : qM} {tp : List Int} (hl : q_lay M) (hT : R_T tp M) (g : G_T tp)
    (K1 : okR tp 0 tp.length → ∀ M', fr (fun a j => (a = 66 ∧ (j = 1 ∨ j = 71)) ∨ a = 119) M M' → R_S tp M' → q_nm M' 66 1 = 0 → P 1 M')
    (K0 : ¬ okR tp 0 tp.length → ∀ M', fr (fun a j => a = 66 ∧ j = 1) M M' → q_nm M' 66 1 = 0 → P 0 M') : q_WP q_Pr (d + 2) 221 [.inr (.inr 66)] M P := by
  refine q_enter (t_221_0 hl ?_)
  rw [hT.1]
  intro M1 e1 l1
  refine ⟨fun z => ?_, fun z => K0 (fun w => z w.1) M1 (fr_wn e1 ⟨rfl, rfl⟩) (wn_eq e1)⟩
  have hT1 : q_L M1 67 0 tp := q_L_fr hT.2 (fun j _ _ => wn_ne e1 (by omega))
  refine r_221l l1 hT1 g (by omega) (fun h1 M2 e2 l2 => ?_) (fun h0 => K0 h0 M1 (fr_wn e1 ⟨rfl, rfl⟩) (wn_eq e1)) tp.length 0 (Int.le_refl 0) (by omega) (fun i a b => absurd a (by omega))
  refine r_221w l2 (q_L_fr hT1 (fun j _ _ => wn_ne e2 (by omega))) g (by omega) (fun M3 f3 q3 => K1 h1 M3 ?_ ⟨?_, q3⟩ ?_) tp.length 0 M2 (Int.le_refl 0) (by omega) fr_rfl (by rw [slice_zero]; exact q_L_nil)
  · exact fr_trans (fr_wn e1 (Or.inl ⟨rfl, Or.inl rfl⟩)) (fr_trans (fr_wn e2 (Or.inl ⟨rfl, Or.inr rfl⟩)) (fr_mono f3 (fun a j z => Or.inr z)))
  · rw [f3.2 66 71 (by dsimp only; omega)]; exact wn_eq e2
  · rw [f3.2 66 1 (by dsimp only; omega), wn_ne e2 (by omega)]; exact wn_eq e1
end
