section
theorem list_ext {l m : List Int} (h : l.length = m.length) (k : ∀ i, i < l.length → l.getD i 0 = m.getD i 0) : l = m := by
  apply List.ext_getElem h
  intro i h1 h2
  have := k i h1
  rwa [getD_el h1, getD_el h2] at this
theorem tb_ext {l m : List Int} (h : l.length = m.length) (k : ∀ i, 0 ≤ i → i < (l.length : Int) → tb l i = tb m i) : l = m :=
  list_ext h (fun i hi => by
    have := k i (by omega) (by omega)
    rwa [tb_in (by omega) (by omega), tb_in (by omega) (by omega)] at this)
theorem lets_tb {l : List Int} : lets l ↔ ∀ i, 0 ≤ i → i < (l.length : Int) → 97 ≤ tb l i ∧ tb l i ≤ 122 := by
  constructor
  · intro h i h0 h1; rw [tb_in h0 h1]; exact h _ (getD_mem (by omega))
  · intro h b hb
    rcases List.getElem_of_mem hb with ⟨i, hi, e⟩
    have := h i (by omega) (by omega)
    rw [tb_in (by omega) (by omega), show ((i : Int)).toNat = i by omega, getD_el hi, e] at this
    exact this
theorem r_160l {d : Nat} {P : Int → qM → Prop} {M : qM} {tp : List Int} {c s : Nat} (hl : q_lay M) (hT : q_L M 67 0 tp) (hn : tp.length ≤ 8) (K1 : lets tp → P 1 M) (K0 : ¬ lets tp → P 0 M) : ∀ (k : Nat) (y : Int), 0 ≤ y → y + k = tp.length → (∀ i, 0 ≤ i → i < y → 97 ≤ tb tp i ∧ tb tp i ≤ 122) → q_At q_m160 (q_WP q_Pr (d + 1)) P 2 [(0, .inr (.inr 66)), (1, .inl (tp.length : Int)), (2, .inl y)] [] M c s := by
  intro k
  induction k with
  | zero =>
    intro y h0 h1 h2
    exact t_160_2 hl ⟨fun _ => K1 (lets_tb.mpr (fun i p q => h2 i p (by omega))), fun z => absurd z (by omega)⟩
  | succ k ih =>
    intro y h0 h1 h2
    refine t_160_2 hl ?_
    have e : q_nm M 67 y = tb tp y := by rw [tb_in h0 (by omega)]; exact q_L_get0 hT h0 (by omega)
    rw [e, w32_id (x := y + 1) (by omega) (by omega)]
    refine ⟨fun z => absurd z (by omega), fun _ => ⟨by omega, fun z => ih (y + 1) (by omega) (by omega) (fun i p q => ?_), fun z => K0 (fun q => z (lets_tb.mp q y h0 (by omega)))⟩⟩
    by_cases e : i = y
    · rw [e]; exact z
    · exact h2 i p (by omega)
theorem r_160 {d : Nat} {P : Int → qM → Prop} {M : qM} {tp : List Int} (hl : q_lay M) (hT : q_L M 67 0 tp) (hn : tp.length ≤ 8) (K1 : lets tp → P 1 M) (K0 : ¬ lets tp → P 0 M) : q_WP q_Pr (d + 2) 160 [.inr (.inr 66), .inl (tp.length : Int)] M P :=
  q_enter (t_160_0 hl (r_160l hl hT hn K1 K0 tp.length 0 (Int.le_refl 0) (by omega) (fun i p q => absurd p (by omega))))
theorem r_161l {d : Nat} {P : Int → qM → Prop} {M : qM} {w : Int} {l tp : List Int} {c s : Nat} (hl : q_lay M) (hT : q_L M 67 0 tp) (hn : tp.length ≤ 8) (hw : 0 ≤ w ∧ w < 30) (hW : R_W1 M w l) (hll : l.length = tp.length) (K1 : l = tp → P 1 M) (K0 : ¬ l = tp → P 0 M) : ∀ (k : Nat) (y : Int), 0 ≤ y → y + k = tp.length → (∀ i, 0 ≤ i → i < y → tb l i = tb tp i) → q_At q_m161 (q_WP q_Pr d) P 14 [(0, .inr (.inr 66)), (1, .inl w), (2, .inl (tp.length : Int)), (3, .inl y)] [] M c s := by
  intro k
  induction k with
  | zero =>
    intro y h0 h1 h2
    exact t_161_14 hl ⟨fun _ => K1 (tb_ext hll (fun i p q => h2 i p (by omega))), fun z => absurd z (by omega)⟩
  | succ k ih =>
    intro y h0 h1 h2
    refine t_161_14 hl ?_
    have e : q_nm M 67 y = tb tp y := by rw [tb_in h0 (by omega)]; exact q_L_get0 hT h0 (by omega)
    have e2 : q_nm M 92 (8 * w + y) = tb l y := by rw [tb_in h0 (by omega)]; exact q_L_get hW.1 h0 (by omega)
    rw [w32_id (x := y + 1) (by omega) (by omega), w32_id (x := 8 * w) (by omega) (by omega), w32_id (x := 8 * w + y) (by omega) (by omega), e, e2]
    refine ⟨fun z => absurd z (by omega), fun _ => ⟨by omega, by omega, fun z => ih (y + 1) (by omega) (by omega) (fun i p q => ?_), fun z => K0 (fun q => z (by rw [q]))⟩⟩
    by_cases e : i = y
    · rw [e]; exact z
    · exact h2 i p (by omega)
theorem r_161 {d : Nat} {P : Int → qM → Prop} {M : qM} {w : Int} {l tp : List Int} (hl : q_lay M) (hT : q_L M 67 0 tp) (hn : tp.length ≤ 8) (hw : 0 ≤ w ∧ w < 30) (hW : R_W1 M w l) (K1 : l = tp → P 1 M) (K0 : ¬ l = tp → P 0 M) : q_WP q_Pr (d + 1) 161 [.inr (.inr 66), .inl w, .inl (tp.length : Int)] M P := by
  refine q_enter (t_161_0 hl ?_)
  rw [hW.2.1]
  exact ⟨hw, fun z => r_161l hl hT hn hw hW (by omega) K1 K0 tp.length 0 (Int.le_refl 0) (by omega) (fun i p q => absurd p (by omega)), fun z => K0 (fun q => z (by rw [q]))⟩
theorem onsI {l : List Int} {o : Int} (h : 0 ≤ o ∧ o ≤ l.length) (h1 : ∀ i, 0 ≤ i → i < o → ¬ q_vow (tb l i)) (h2 : o < l.length → q_vow (tb l o)) : o = onsN l := by
  have := onsN_uniq l o.toNat (by omega) (fun i hi => by
    have := h1 i (by omega) (by omega)
    rwa [tb_in (by omega) (by omega), show ((i : Int)).toNat = i by omega] at this) (fun hn => by
    have := h2 (by omega)
    rwa [tb_in (by omega) (by omega)] at this)
  omega
/-- letters from the last to the first -/
theorem r_162d {d : Nat} {P : Int → qM → Prop} {M0 : qM} {nw so se oo : Int} {WL : Int → List Int} {WS WE WO : Int → Int} {tp : List Int} {c s : Nat} (hl : q_lay M0) (hT : q_L M0 67 0 tp) (hW : R_W nw WL WS WE WO M0) (g : G_W nw WL WS WE WO) (hn : nw < 30) (hk : okw tp) (hsz : q_nm M0 93 nw = tp.length)
    (K1 : ∀ M', fr (fun a j => (92 ≤ a ∧ a ≤ 97) ∨ (a = 66 ∧ j = 33)) M0 M' → R_W (nw + 1) (fup WL nw tp) (fup WS nw so) (fup WE nw se) (fup WO nw oo) M' → P nw M') : ∀ (k : Nat) (y o : Int) (M : qM), y + 1 = k → y < o → o ≤ tp.length → (∀ i, y < i → i < o → ¬ q_vow (tb tp i)) → (o < tp.length → q_vow (tb tp o)) → fr (fun a j => (a = 92 ∧ 8 * nw ≤ j) ∨ (a = 94 ∧ j = nw)) M0 M → q_nm M 94 nw = o → (∀ i, y < i → i < tp.length → q_nm M 92 (8 * nw + i) = tb tp i) → q_At q_m162 (q_WP q_Pr (d + 1)) P 141 [(0, .inr (.inr 66)), (1, .inl so), (2, .inl se), (3, .inl oo), (5, .inl nw), (6, .inl y)] [] M c s := by
  have gn := g.1
  have h8 := hk.1
  intro k
  induction k with
  | zero =>
    intro y o M h0 ho1 ho2 ho3 ho4 hf h94 h92
    refine t_162_141 (fr_lay hf hl) ⟨fun _ => ⟨by omega, fun M1 e1 l1 => ⟨by omega, fun M2 e2 l2 => ⟨by omega, fun M3 e3 l3 => ?_⟩⟩⟩, fun z => absurd z (by omega)⟩
    have e33 : q_nm M 66 33 = nw := (hf.2 66 33 (by dsimp only; omega)).trans hW.1
    rw [wn_ne e3 (by omega), wn_ne e2 (by omega), wn_ne e1 (by omega), e33, w32_id (x := nw + 1) (by omega) (by omega)]
    intro M4 e4 l4
    have ne : ∀ a j, ¬ (a = 66 ∧ j = 33) → ¬ (a = 95 ∧ j = nw) → ¬ (a = 96 ∧ j = nw) → ¬ (a = 97 ∧ j = nw) → q_nm M4 a j = q_nm M a j := fun a j p q r t => by rw [wn_ne e4 p, wn_ne e3 t, wn_ne e2 r, wn_ne e1 q]
    have f4 : fr (fun a j => (92 ≤ a ∧ a ≤ 97) ∨ (a = 66 ∧ j = 33)) M M4 := fr_trans (fr_wn e1 (Or.inl ⟨by omega, by omega⟩)) (fr_trans (fr_wn e2 (Or.inl ⟨by omega, by omega⟩)) (fr_trans (fr_wn e3 (Or.inl ⟨by omega, by omega⟩)) (fr_wn e4 (Or.inr ⟨rfl, rfl⟩))))
    refine K1 M4 (fr_trans (fr_mono hf (fun a j z => by omega)) f4) ⟨wn_eq e4, fun w p q => ?_⟩
    by_cases e : w = nw
    · subst e
      rw [fup_eq, fup_eq, fup_eq, fup_eq]
      refine ⟨⟨fun i hi => ?_, ?_, ?_⟩, ?_, ?_, ?_⟩
      · rw [ne 92 _ (by omega) (by omega) (by omega) (by omega), h92 i (by omega) (by omega), tb_in (by omega) (by omega)]; rfl
      · rw [ne 93 _ (by omega) (by omega) (by omega) (by omega), hf.2 93 _ (by dsimp only; omega)]; exact hsz
      · rw [ne 94 _ (by omega) (by omega) (by omega) (by omega), h94]; exact onsI (by omega) (fun i p q => ho3 i (by omega) q) ho4
      · rw [wn_ne e4 (by omega), wn_ne e3 (by omega), wn_ne e2 (by omega)]; exact wn_eq e1
      · rw [wn_ne e4 (by omega), wn_ne e3 (by omega)]; exact wn_eq e2
      · rw [wn_ne e4 (by omega)]; exact wn_eq e3
    · have oo := hW.2 w p (by omega)
      have o8 := (g.2.1 w p (by omega)).1.1.2
      rw [fup_ne e, fup_ne e, fup_ne e, fup_ne e]
      refine ⟨⟨q_L_fr oo.1.1 (fun j _ _ => ?_), ?_, ?_⟩, ?_, ?_, ?_⟩
      · rw [ne 92 _ (by omega) (by omega) (by omega) (by omega), hf.2 92 _ (by dsimp only; omega)]
      · rw [ne 93 _ (by omega) (by omega) (by omega) (by omega), hf.2 93 _ (by dsimp only; omega)]; exact oo.1.2.1
      · rw [ne 94 _ (by omega) (by omega) (by omega) (by omega), hf.2 94 _ (by dsimp only; omega)]; exact oo.1.2.2
      · rw [ne 95 _ (by omega) (by omega) (by omega) (by omega), hf.2 95 _ (by dsimp only; omega)]; exact oo.2.1
      · rw [ne 96 _ (by omega) (by omega) (by omega) (by omega), hf.2 96 _ (by dsimp only; omega)]; exact oo.2.2.1
      · rw [ne 97 _ (by omega) (by omega) (by omega) (by omega), hf.2 97 _ (by dsimp only; omega)]; exact oo.2.2.2
  | succ k ih =>
    intro y o M h0 ho1 ho2 ho3 ho4 hf h94 h92
    refine t_162_141 (fr_lay hf hl) ?_
    have e : q_nm M 67 y = tb tp y := by rw [hf.2 67 y (by dsimp only; omega), tb_in (by omega) (by omega)]; exact q_L_get0 hT (by omega) (by omega)
    rw [e, w32_id (x := y + -1) (by omega) (by omega), w32_id (x := 8 * nw) (by omega) (by omega), w32_id (x := 8 * nw + y) (by omega) (by omega)]
    refine ⟨fun z => absurd z (by omega), fun _ => ⟨by omega, by omega, fun M1 e1 l1 => ?_⟩⟩
    rw [(wn_ne e1 (by omega)).trans e]
    have f1 := fr_trans hf (fr_wn (Z := fun a j => (a = 92 ∧ 8 * nw ≤ j) ∨ (a = 94 ∧ j = nw)) e1 (Or.inl ⟨rfl, by omega⟩))
    have q1 : ∀ i, y + -1 < i → i < tp.length → q_nm M1 92 (8 * nw + i) = tb tp i := fun i p q => by
      by_cases z : i = y
      · rw [z]; exact wn_eq e1
      · rw [wn_ne e1 (by omega)]; exact h92 i (by omega) q
    refine ⟨by omega, fun z => ⟨by omega, fun M2 e2 l2 => ?_⟩, fun z => ?_⟩
    · exact ih (y + -1) y M2 (by omega) (by omega) (by omega) (fun i p q => by omega) (fun _ => z) (fr_trans f1 (fr_wn e2 (Or.inr ⟨rfl, rfl⟩))) (wn_eq e2) (fun i p q => (wn_ne e2 (by omega)).trans (q1 i p q))
    · refine ih (y + -1) o M1 (by omega) (by omega) (by omega) (fun i p q => ?_) ho4 f1 ((wn_ne e1 (by omega)).trans h94) q1
      by_cases w : i = y
      · rw [w]; exact z
      · exact ho3 i (by omega) q
theorem r_162l {d : Nat} {P : Int → qM → Prop} {M : qM} {nw so se oo : Int} {WL : Int → List Int} {WS WE WO : Int → Int} {tp : List Int} {c s : Nat} (hl : q_lay M) (hT : q_L M 67 0 tp) (hW : R_W nw WL WS WE WO M) (g : G_W nw WL WS WE WO) (hn : nw < 30) (hk : okw tp)
    (K1 : okA nw WL tp → ∀ M', fr (fun a j => (92 ≤ a ∧ a ≤ 97) ∨ (a = 66 ∧ j = 33)) M M' → R_W (nw + 1) (fup WL nw tp) (fup WS nw so) (fup WE nw se) (fup WO nw oo) M' → P nw M') (K0 : ¬ okA nw WL tp → P (-1) M) : ∀ (k : Nat) (y : Int), 0 ≤ y → y + k = nw → (∀ w, 0 ≤ w → w < y → WL w ≠ tp) → q_At q_m162 (q_WP q_Pr (d + 1)) P 83 [(0, .inr (.inr 66)), (1, .inl so), (2, .inl se), (3, .inl oo), (4, .inl (tp.length : Int)), (5, .inl y)] [] M c s := by
  have gn := g.1
  have h8 := hk.1
  intro k
  induction k with
  | zero =>
    intro y h0 h1 h2
    refine t_162_83 hl ?_
    rw [hW.1, w32_id (x := (tp.length : Int) - 1) (by omega) (by omega)]
    refine ⟨fun _ => ⟨by omega, fun M1 e1 l1 => ⟨by omega, fun M2 e2 l2 => ?_⟩⟩, fun z => absurd z (by omega)⟩
    have ne : ∀ a j, ¬ (a = 93 ∧ j = nw) → ¬ (a = 94 ∧ j = nw) → q_nm M2 a j = q_nm M a j := fun a j p q => by rw [wn_ne e2 q, wn_ne e1 p]
    have f2 : fr (fun a j => (92 ≤ a ∧ a ≤ 97) ∨ (a = 66 ∧ j = 33)) M M2 := fr_trans (fr_wn e1 (Or.inl ⟨by omega, by omega⟩)) (fr_wn e2 (Or.inl ⟨by omega, by omega⟩))
    have W2 : R_W nw WL WS WE WO M2 := ⟨(ne 66 33 (by omega) (by omega)).trans hW.1, fun w p q => by
      have o := hW.2 w p q
      exact ⟨⟨q_L_fr o.1.1 (fun j _ _ => ne 92 j (by omega) (by omega)), (ne 93 _ (by omega) (by omega)).trans o.1.2.1, (ne 94 _ (by omega) (by omega)).trans o.1.2.2⟩, (ne 95 _ (by omega) (by omega)).trans o.2.1, (ne 96 _ (by omega) (by omega)).trans o.2.2.1, (ne 97 _ (by omega) (by omega)).trans o.2.2.2⟩⟩
    refine r_162d l2 (q_L_fr hT (fun j _ _ => ne 67 j (by omega) (by omega))) W2 g hn hk ((wn_ne e2 (by omega)).trans (wn_eq e1)) (fun M' f3 c3 => K1 ⟨hn, hk, fun w p q => h2 w p (by omega)⟩ M' (fr_trans f2 f3) c3) tp.length ((tp.length : Int) - 1) tp.length M2 (by omega) (by omega) (by omega) (fun i p q => by omega) (fun z => absurd z (by omega)) fr_rfl (wn_eq e2) (fun i p q => by omega)
  | succ k ih =>
    intro y h0 h1 h2
    refine t_162_83 hl ?_
    rw [hW.1, w32_id (x := y + 1) (by omega) (by omega)]
    refine ⟨fun z => absurd z (by omega), fun _ => ?_⟩
    refine r_161 hl hT h8.2 (by omega) (hW.2 y h0 (by omega)).1 (fun z => ⟨hl, fun q => absurd q (by decide), fun _ => K0 (fun q => q.2.2 y h0 (by omega) z)⟩) (fun z => ⟨hl, fun _ => ih (y + 1) (by omega) (by omega) (fun w p q => ?_), fun q => absurd rfl q⟩)
    by_cases e : w = y
    · rw [e]; exact z
    · exact h2 w p (by omega)
theorem r_162 {d : Nat} {P : Int → qM → Prop} {M : qM} {nw so se oo : Int} {WL : Int → List Int} {WS WE WO : Int → Int} {tp : List Int} (hl : q_lay M) (hT : R_T tp M) (gT : G_T tp) (hW : R_W nw WL WS WE WO M) (g : G_W nw WL WS WE WO)
    (K1 : okW nw WL tp so se oo → ∀ M', fr (fun a j => (92 ≤ a ∧ a ≤ 97) ∨ (a = 66 ∧ (j = 33 ∨ j = 1))) M M' → R_W (nw + 1) (fup WL nw tp) (fup WS nw so) (fup WE nw se) (fup WO nw oo) M' → q_nm M' 66 1 = 0 → P nw M')
    (K0 : ¬ okW nw WL tp so se oo → ∀ M', fr (fun a j => a = 66 ∧ j = 1) M M' → q_nm M' 66 1 = 0 → P (-1) M') : q_WP q_Pr (d + 3) 162 [.inr (.inr 66), .inl so, .inl se, .inl oo] M P := by
  have gn := g.1
  refine q_enter (t_162_0 hl ?_)
  rw [hT.1]
  intro M1 e1 l1
  have k0 : ¬ okW nw WL tp so se oo → P (-1) M1 := fun h => K0 h M1 (fr_wn e1 ⟨rfl, rfl⟩) (wn_eq e1)
  refine ⟨fun z => ?_, fun z => k0 (fun q => z (by have := q.2.2.1.1; omega))⟩
  have hT1 : q_L M1 67 0 tp := q_L_fr hT.2 (fun j _ _ => wn_ne e1 (by omega))
  have hW1 : R_W nw WL WS WE WO M1 := R_W_fr hW (wn_ne e1 (by omega)) (fun a j p q => wn_ne e1 (by omega))
  refine r_160 l1 hT1 (by omega) (fun hk => ⟨l1, fun q => absurd q (by decide), fun _ => ?_⟩) (fun hk => ⟨l1, fun _ => k0 (fun q => hk q.2.2.1.2), fun q => absurd rfl q⟩)
  rw [hW1.1]
  refine ⟨fun a1 => ⟨fun a2 => ⟨fun a3 => ⟨fun a4 => ?_, fun a4 => k0 (fun q => by have := q.2.1; omega)⟩, fun a3 => k0 (fun q => by have := q.1; omega)⟩, fun a2 => k0 (fun q => by have := q.1; omega)⟩, fun a1 => k0 (fun q => by have := q.1; omega)⟩
  refine r_162l l1 hT1 hW1 g (by omega) ⟨by omega, hk⟩ (fun h M' f2 c2 => K1 ⟨⟨a1, a2, a3⟩, h⟩ M' ?_ c2 ?_) (fun h => k0 (fun q => h q.2)) nw.toNat 0 (Int.le_refl 0) (by omega) (fun w p q => absurd p (by omega))
  · exact fr_trans (fr_wn e1 (Or.inr ⟨rfl, Or.inr rfl⟩)) (fr_mono f2 (fun a j z => by omega))
  · rw [f2.2 66 1 (by dsimp only; omega)]; exact wn_eq e1
end
