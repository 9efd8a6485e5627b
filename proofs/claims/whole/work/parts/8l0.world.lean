section
/-! THE WORLD: tape; words; rows; makings and ear; fault; said; notes; picture -/
abbrev qW : Type := List Int × (Int × (Int → List Int) × (Int → Int) × (Int → Int) × (Int → Int)) × (Int × (Int → List Int)) × (Int → Option (List qS)) × (Int × Int) × List Int × (Int × (Int → Int) × (Int → List Int)) × List Int
abbrev w_tp (W : qW) : List Int := W.1
abbrev w_nw (W : qW) : Int := W.2.1.1
abbrev w_WL (W : qW) : Int → List Int := W.2.1.2.1
abbrev w_WS (W : qW) : Int → Int := W.2.1.2.2.1
abbrev w_WE (W : qW) : Int → Int := W.2.1.2.2.2.1
abbrev w_WO (W : qW) : Int → Int := W.2.1.2.2.2.2
abbrev w_nr (W : qW) : Int := W.2.2.1.1
abbrev w_RL (W : qW) : Int → List Int := W.2.2.1.2
abbrev w_SO (W : qW) : Int → Option (List qS) := W.2.2.2.1
abbrev w_fk (W : qW) : Int := W.2.2.2.2.1.1
abbrev w_fp (W : qW) : Int := W.2.2.2.2.1.2
abbrev w_sd (W : qW) : List Int := W.2.2.2.2.2.1
abbrev w_nn (W : qW) : Int := W.2.2.2.2.2.2.1.1
abbrev w_NR (W : qW) : Int → Int := W.2.2.2.2.2.2.1.2.1
abbrev w_NL (W : qW) : Int → List Int := W.2.2.2.2.2.2.1.2.2
abbrev w_pc (W : qW) : List Int := W.2.2.2.2.2.2.2
def WG (W : qW) : Prop := G_T (w_tp W) ∧ G_W (w_nw W) (w_WL W) (w_WS W) (w_WE W) (w_WO W) ∧ ((0 ≤ w_nr W ∧ w_nr W ≤ 12) ∧ ∀ r, 0 ≤ r → r < w_nr W → G_L (w_nw W) (w_RL W r)) ∧ G_S (w_sd W) ∧ G_N (w_nr W) (w_nn W) (w_NR W) (w_NL W) ∧ G_P (w_pc W)
/-- a row's object holds what it should -/
def C_row (W : qW) (M : qM) (m : Int) (ln : List Int) : Prop := C_M M m ln ∧ m + 24 ≤ q_top M ∧ (0 ≤ q_nm M m 2 ∧ q_nm M m 2 ≤ w_nw W) ∧ (q_nm M m 2 = w_nw W → C_rdy M m (w_nw W) (w_WL W) (w_WS W) (w_WE W) (w_WO W) ln ∧ ∀ k, 0 ≤ k → k < 5 → q_nm M (m + 2) k ≠ 0 → C_wt M m k (wK (w_nw W) (w_WL W) (w_WS W) (w_WE W) (w_WO W) ln k (w_SO W k)) (txK (w_nw W) (w_WL W) (w_WS W) (w_WE W) ln) (TK (w_nw W) (w_WL W) (w_WS W) (w_WE W) ln).length)
def C_RR (W : qW) (M : qM) : Prop := q_nm M 0 3 = w_nr W ∧ (∀ r, 0 ≤ r → r < w_nr W → C_row W M (q_rf M 13 r) (w_RL W r)) ∧ (∀ r r', 0 ≤ r → r < r' → r' < w_nr W → q_rf M 13 r + 24 ≤ q_rf M 13 r') ∧ ∀ r k, 0 ≤ r → r < w_nr W → 0 ≤ k → k < 5 → sepS (q_rf M 13 r) (q_rf M 14 k) (w_SO W k)
def C_SS (W : qW) (M : qM) : Prop := ∀ k, 0 ≤ k → k < 5 → (C_so M (q_rf M 14 k) (w_SO W k) ∧ (w_SO W k ≠ none → q_rf M 14 k + 6 ≤ q_top M))
def WC (W : qW) (M : qM) : Prop := C_T (w_tp W) M ∧ C_W (w_nw W) (w_WL W) (w_WS W) (w_WE W) (w_WO W) M ∧ C_RR W M ∧ C_SS W M ∧ (q_nm M 0 7 = w_fk W ∧ q_nm M 0 8 = w_fp W) ∧ C_Sp 19 20 (w_sd W) M ∧ C_N (w_nn W) (w_NR W) (w_NL W) M ∧ C_P (w_pc W) M
def WR (W : qW) (M : qM) : Prop := R_T (w_tp W) M ∧ R_W (w_nw W) (w_WL W) (w_WS W) (w_WE W) (w_WO W) M ∧ (q_nm M 66 40 = w_nr W ∧ (∀ r, 0 ≤ r → r < w_nr W → R_row M r (w_RL W r)) ∧ R_Y M (w_nw W) (w_nr W) (w_WL W) (w_WS W) (w_WE W) (w_RL W)) ∧ (∀ k, 0 ≤ k → k < 5 → R_so M k (w_SO W k)) ∧ (q_nm M 66 7 = w_fk W ∧ q_nm M 66 8 = w_fp W) ∧ R_S (w_sd W) M ∧ R_N (w_nn W) (w_NR W) (w_NL W) M ∧ R_P (w_pc W) M
/-- the reference's cells, and the script, are as they were -/
def kR (M M' : qM) : Prop := (∀ a, ((66 ≤ a ∧ a ≤ 125) ∨ a = -3) → (q_kd M' a = q_kd M a ∧ q_ln M' a = q_ln M a ∧ ∀ j, q_nm M' a j = q_nm M a j)) ∧ q_lay M'
def Zc : Int → Int → Prop := fun a _ => (0 ≤ a ∧ a < 66) ∨ 126 ≤ a
def Zr : Int → Int → Prop := fun a _ => 66 ≤ a ∧ a ≤ 125 ∧ ¬ (68 ≤ a ∧ a ≤ 91)
/-- the own words, and the cells of the reference that spell them -/
def owl : List (List Int) := [[110, 111, 110, 101], [101, 97, 114, 108, 121], [108, 97, 116, 101], [115, 119, 97, 112], [116, 114, 97, 100, 101], [98, 108, 101, 110, 100], [110, 101, 97, 114], [115, 101, 110, 115, 101], [108, 111, 115, 116], [119, 104, 101, 110], [111, 114], [97, 110, 100], [110, 111, 116], [97, 108, 108], [114, 101, 97, 108], [103, 97, 112], [112, 108, 97, 99, 101], [119, 111, 114, 100, 115], [111, 102, 116, 101, 110], [111, 119, 110], [115, 111, 114, 116], [102, 97, 114], [109, 105, 110], [109, 97, 120]]
def LT (M : qM) : Prop := ∀ n : Nat, n < 24 → q_L M (68 + n) 0 (owl.getD n [])
theorem LT_eq {M M' : qM} (h : LT M) (k : ∀ a j, 68 ≤ a → a ≤ 91 → q_nm M' a j = q_nm M a j) : LT M' := fun n hn => q_L_fr (h n hn) (fun j _ _ => k _ _ (by omega) (by omega))
theorem kR_fr {M M' : qM} (hl : q_lay M) (f : fr Zc M M') : kR M M' := ⟨fun a h => ⟨fr_kd f a, fr_ln f a, fun j => f.2 a j (by unfold Zc; omega)⟩, fr_lay f hl⟩
theorem R_tk1_eq {M M' : qM} {nw : Int} {WL : Int → List Int} {ln : List Int} {i : Int} {t : qT} (h : R_tk1 M nw WL ln i t) (k : ∀ a j, 66 ≤ a → a ≤ 125 → q_nm M' a j = q_nm M a j) : R_tk1 M' nw WL ln i t := by
  obtain ⟨⟨h1, h2, h3⟩, h4, h5, h6, h7, h8⟩ := h
  refine ⟨⟨(k _ _ (by omega) (by omega)).trans h1, (k _ _ (by omega) (by omega)).trans h2, (k _ _ (by omega) (by omega)).trans h3⟩, (k _ _ (by omega) (by omega)).trans h4, q_L_fr h5 (fun j _ _ => k _ _ (by omega) (by omega)), (k _ _ (by omega) (by omega)).trans h6, (k _ _ (by omega) (by omega)).trans h7, ?_⟩
  rw [k _ _ (by omega) (by omega)]; exact h8
theorem R_Y_eq {M M' : qM} {nw nr : Int} {WL : Int → List Int} {WS WE : Int → Int} {RL : Int → List Int} (h : R_Y M nw nr WL WS WE RL) (k : ∀ a j, 66 ≤ a → a ≤ 125 → q_nm M' a j = q_nm M a j) : R_Y M' nw nr WL WS WE RL := by
  have e1 : q_nm M' 66 56 = q_nm M 66 56 := k _ _ (by omega) (by omega)
  have e2 : q_nm M' 66 67 = q_nm M 66 67 := k _ _ (by omega) (by omega)
  unfold R_Y
  rw [e1, e2]
  exact ⟨h.1, fun a b => ⟨(k _ _ (by omega) (by omega)).trans (h.2 a b).1, fun i hi => R_tk1_eq ((h.2 a b).2 i hi) k⟩⟩
theorem WR_eq {W : qW} {M M' : qM} (h : WR W M) (k : ∀ a j, 66 ≤ a → a ≤ 125 → q_nm M' a j = q_nm M a j) : WR W M' := by
  obtain ⟨h1, h2, ⟨h3, h4, h5⟩, h6, h7, h8, h9, h10⟩ := h
  exact ⟨R_T_fr h1 (k _ _ (by omega) (by omega)) (fun j => k _ _ (by omega) (by omega)), R_W_fr h2 (k _ _ (by omega) (by omega)) (fun a j _ _ => k _ _ (by omega) (by omega)), ⟨(k _ _ (by omega) (by omega)).trans h3, fun r a b => R_row_fr (h4 r a b) (fun a j _ _ => k _ _ (by omega) (by omega)), R_Y_eq h5 k⟩, fun j a b => R_so_fr (h6 j a b) (fun a j _ _ => k _ _ (by omega) (by omega)), ⟨(k _ _ (by omega) (by omega)).trans h7.1, (k _ _ (by omega) (by omega)).trans h7.2⟩, ⟨(k _ _ (by omega) (by omega)).trans h8.1, q_L_fr h8.2 (fun j _ _ => k _ _ (by omega) (by omega))⟩, R_N_fr h9 (k _ _ (by omega) (by omega)) (fun a j _ _ => k _ _ (by omega) (by omega)), R_P_fr h10 (k _ _ (by omega) (by omega)) (fun j => k _ _ (by omega) (by omega))⟩
theorem C_wt_fr {M M' : qM} {m slot : Int} {w : Nat → Int} {tx : Nat → List Int} {n : Nat} (h : C_wt M m slot w tx n) (hs : 0 ≤ slot ∧ slot < 5) (k : ∀ a j, m ≤ a → a ≤ m + 23 → q_nm M' a j = q_nm M a j) : C_wt M' m slot w tx n :=
  ⟨fun i hi => (k _ _ (by omega) (by omega)).trans (h.1 i hi), (k _ _ (by omega) (by omega)).trans h.2.1, fun i hi hl => (k _ _ (by omega) (by omega)).trans (h.2.2 i hi hl)⟩
theorem C_rdy_fr {M M' : qM} {m nw : Int} {WL : Int → List Int} {WS WE WO : Int → Int} {ln : List Int} (h : C_rdy M m nw WL WS WE WO ln) (k : ∀ a j, m ≤ a → a ≤ m + 23 → q_nm M' a j = q_nm M a j) : C_rdy M' m nw WL WS WE WO ln :=
  ⟨⟨(k _ _ (by omega) (by omega)).trans h.1.1, fun i hi => ⟨(k _ _ (by omega) (by omega)).trans (h.1.2 i hi).1, (k _ _ (by omega) (by omega)).trans (h.1.2 i hi).2.1, (k _ _ (by omega) (by omega)).trans (h.1.2 i hi).2.2⟩⟩, fun i hi => C_de_fr (h.2.1 i hi) (fun a _ _ => k _ _ (by omega) (by omega)), fun j hj => by
    obtain ⟨l, a, b⟩ := h.2.2 j hj
    exact ⟨l, a, (k _ _ (by omega) (by omega)).trans b⟩⟩
theorem C_row_fr {Z : Int → Int → Prop} {W : qW} {M M' : qM} {m : Int} {ln : List Int} (h : C_row W M m ln) (f : fr Z M M') (z : ∀ a j, m ≤ a → a ≤ m + 23 → ¬ Z a j) : C_row W M' m ln := by
  obtain ⟨h1, h2, h3, h4⟩ := h
  have k : ∀ a j, m ≤ a → a ≤ m + 23 → q_nm M' a j = q_nm M a j := fun a j x y => f.2 a j (z a j x y)
  refine ⟨C_M_fr h1 f (fun j => z _ _ (by omega) (by omega)), by rw [fr_top f]; exact h2, ?_, fun e => ?_⟩
  · rw [k _ _ (by omega) (by omega)]; exact h3
  · rw [k _ _ (by omega) (by omega)] at e
    refine ⟨C_rdy_fr (h4 e).1 k, fun j a b c => C_wt_fr ((h4 e).2 j a b ?_) ⟨a, b⟩ k⟩
    rw [k _ _ (by omega) (by omega)] at c; exact c
theorem C_RR_fr {Z : Int → Int → Prop} {W : qW} {M M' : qM} (h : C_RR W M) (f : fr Z M M') (z0 : ¬ Z 0 3) (z : ∀ a j, 126 ≤ a → ¬ Z a j) : C_RR W M' := by
  obtain ⟨h1, h2, h3, h4⟩ := h
  refine ⟨(f.2 _ _ z0).trans h1, fun r a b => ?_, fun r r' a b c => ?_, fun r k a b c d => ?_⟩
  · rw [fr_rf f]
    have ge := q_ml_ge (h2 r a b).1.1
    exact C_row_fr (h2 r a b) f (fun x j p q => z x j (by omega))
  · rw [fr_rf f, fr_rf f]; exact h3 r r' a b c
  · rw [fr_rf f, fr_rf f]; exact h4 r k a b c d
theorem C_SS_fr {Z : Int → Int → Prop} {W : qW} {M M' : qM} (h : C_SS W M) (f : fr Z M M') (z : ∀ k, 0 ≤ k → k < 5 → ∀ a j, w_SO W k ≠ none → q_rf M 14 k ≤ a → a ≤ q_rf M 14 k + 5 → ¬ Z a j) : C_SS W M' := by
  intro k a b
  have q := h k a b
  have zk := z k a b
  rw [fr_rf f, fr_top f]
  refine ⟨?_, q.2⟩
  cases e : w_SO W k with
  | none => have q1 := q.1; rw [e] at q1; exact q1
  | some sc =>
    have q1 := q.1
    rw [e] at q1
    exact ⟨C_sc_fr q1.1 f (fun x j u v => zk x j (by rw [e]; simp) u v), q1.2⟩
/-- the class's world under moves of the reference -/
theorem WC_Zr {W : qW} {M M' : qM} (g : WG W) (h : WC W M) (f : fr Zr M M') : WC W M' := by
  obtain ⟨h1, h2, h3, h4, h5, h6, h7, h8⟩ := h
  have k : ∀ a j, a < 66 → q_nm M' a j = q_nm M a j := fun a j x => f.2 a j (by unfold Zr; omega)
  refine ⟨C_T_fr h1 (fun j => ⟨k _ _ (by omega), k _ _ (by omega)⟩), C_W_fr h2 (fun a j _ _ => k _ _ (by omega)), C_RR_fr h3 f (by unfold Zr; omega) (fun a j _ => by unfold Zr; omega), C_SS_fr h4 f (fun x p q a j e u v => ?_), ⟨(k _ _ (by omega)).trans h5.1, (k _ _ (by omega)).trans h5.2⟩, C_Sp_fr h6 (k _ _ (by omega)) (fun j => k _ _ (by omega)), C_N_fr g.2.2.2.2.1.1.2 h7 (fun a j _ _ => k _ _ (by omega)), C_P_fr h8 (k _ _ (by omega)) (fun j => k _ _ (by omega))⟩
  have q1 := (h4 x p q).1
  cases e2 : w_SO W x with
  | none => exact absurd e2 e
  | some sc => rw [e2] at q1; have := q1.1.1.1; unfold Zr; omega
/-- all that stands before and behind each call -/
def INV (L : Nat) (X : Int → Int) (M : qM) : Prop := ∃ W : qW, q_scr L X M ∧ q_lay M ∧ WG W ∧ WC W M ∧ WR W M ∧ LT M
/-- a call of both sides: like answers, a like world -/
theorem q_okQL {L : Nat} {X : Int → Int} {D yc yr : Nat} {as : List qV} (A : qW → Int) (N : qW → qW) (hG : ∀ W, WG W → WG (N W))
    (hC : ∀ W M, q_lay M → WG W → WC W M → q_WP q_Pr D yc (.inr (.inr 0) :: as) M (fun v M' => v = A W ∧ kR M M' ∧ WC (N W) M'))
    (hR : ∀ W M, q_lay M → WG W → WR W M → LT M → q_WP q_Pr D yr (.inr (.inr 66) :: as) M (fun v M' => v = A W ∧ fr Zr M M' ∧ WR (N W) M')) : q_ok L X (INV L X) D yc yr as := by
  rintro M ⟨W, hs, hl, g, hc, hr, ht⟩
  refine q_WP_mono _ _ _ _ _ _ (fun v M1 h1 => ?_) (hC W M hl g hc)
  obtain ⟨e1, k1, c1⟩ := h1
  have s1 : q_scr L X M1 := by
    have q := k1.1 (-3) (Or.inr rfl)
    exact ⟨q.1.trans hs.1, q.2.1.trans hs.2.1, fun j => (q.2.2 j).trans (hs.2.2 j)⟩
  have r1 : WR W M1 := WR_eq hr (fun a j x y => (k1.1 a (Or.inl ⟨x, y⟩)).2.2 j)
  have t1 : LT M1 := LT_eq ht (fun a j x y => (k1.1 a (Or.inl ⟨by omega, by omega⟩)).2.2 j)
  refine ⟨⟨s1, lk66 k1.2⟩, q_WP_mono _ _ _ _ _ _ (fun w M2 h2 => ?_) (hR W M1 k1.2 g r1 t1)⟩
  obtain ⟨e2, f2, r2⟩ := h2
  exact ⟨e1.trans e2.symm, N W, fr_scr f2 (fun j => by unfold Zr; omega) s1, fr_lay f2 k1.2, hG W g, WC_Zr (hG W g) c1 f2, r2, LT_eq t1 (fun a j x y => f2.2 a j (by unfold Zr; omega))⟩
theorem q_okQ {L : Nat} {X : Int → Int} {D yc yr : Nat} {as : List qV} (A : qW → Int) (N : qW → qW) (hG : ∀ W, WG W → WG (N W))
    (hC : ∀ W M, q_lay M → WG W → WC W M → q_WP q_Pr D yc (.inr (.inr 0) :: as) M (fun v M' => v = A W ∧ kR M M' ∧ WC (N W) M'))
    (hR : ∀ W M, q_lay M → WG W → WR W M → q_WP q_Pr D yr (.inr (.inr 66) :: as) M (fun v M' => v = A W ∧ fr Zr M M' ∧ WR (N W) M')) : q_ok L X (INV L X) D yc yr as :=
  q_okQL A N hG hC (fun W M a b c _ => hR W M a b c)
end
