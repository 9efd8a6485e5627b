section
noncomputable abbrev w_T (W : qW) (r : Int) : List qT := TK (w_nw W) (w_WL W) (w_WS W) (w_WE W) (w_RL W r)
noncomputable abbrev w_tx (W : qW) (r : Int) : Nat → List Int := txK (w_nw W) (w_WL W) (w_WS W) (w_WE W) (w_RL W r)
noncomputable abbrev w_wt (W : qW) (r k : Int) : Nat → Int := wK (w_nw W) (w_WL W) (w_WS W) (w_WE W) (w_WO W) (w_RL W r) k (w_SO W k)
abbrev w_rdy (W : qW) (M : qM) (m r : Int) : Prop := C_rdy M m (w_nw W) (w_WL W) (w_WS W) (w_WE W) (w_WO W) (w_RL W r)
abbrev w_ctx (W : qW) (M : qM) (m r : Int) : Prop := ctx M m (w_nw W) (w_WL W) (w_WS W) (w_WE W) (w_WO W) (w_RL W r)
theorem WC_ctx {W : qW} {M : qM} (g : WG W) (h : WC W M) {r : Int} (hr : 0 ≤ r ∧ r < w_nr W) : w_ctx W M (q_rf M 13 r) r := ⟨(h.2.2.1.2.1 r hr.1 hr.2).1, h.2.1, g.2.1, g.2.2.1.2 r hr.1 hr.2⟩
/-- a row's own cells (and the machine's) are moved -/
theorem WC_row {Z : Int → Int → Prop} {W : qW} {M M' : qM} {r : Int} (g : WG W) (h : WC W M) (hr : 0 ≤ r ∧ r < w_nr W) (f : fr Z M M') (z : ∀ a j, Z a j → (q_rf M 13 r ≤ a ∧ a ≤ q_rf M 13 r + 23) ∨ a = 16 ∨ a = 17 ∨ a = 18) (hrow : C_row W M' (q_rf M 13 r) (w_RL W r)) : WC W M' := by
  obtain ⟨h1, h2, ⟨r1, r2, r3, r4⟩, h4, h5, h6, h7, h8⟩ := h
  have ge := q_ml_ge (r2 r hr.1 hr.2).1.1
  have k : ∀ a j, a < 126 → a ≠ 16 → a ≠ 17 → a ≠ 18 → q_nm M' a j = q_nm M a j := fun a j x y w v => f.2 a j (fun q => by have := z a j q; omega)
  refine ⟨C_T_fr h1 (fun j => ⟨k _ _ (by omega) (by omega) (by omega) (by omega), k _ _ (by omega) (by omega) (by omega) (by omega)⟩), C_W_fr h2 (fun a j _ _ => k _ _ (by omega) (by omega) (by omega) (by omega)), ⟨(k _ _ (by omega) (by omega) (by omega) (by omega)).trans r1, fun r' a b => ?_, fun x y a b c => ?_, fun x y a b c d => ?_⟩, C_SS_fr h4 f (fun x p q a j e u v w => ?_), ⟨(k _ _ (by omega) (by omega) (by omega) (by omega)).trans h5.1, (k _ _ (by omega) (by omega) (by omega) (by omega)).trans h5.2⟩, C_Sp_fr h6 (k _ _ (by omega) (by omega) (by omega) (by omega)) (fun j => k _ _ (by omega) (by omega) (by omega) (by omega)), C_N_fr g.2.2.2.2.1.1.2 h7 (fun a j _ _ => k _ _ (by omega) (by omega) (by omega) (by omega)), C_P_fr h8 (k _ _ (by omega) (by omega) (by omega) (by omega)) (fun j => k _ _ (by omega) (by omega) (by omega) (by omega))⟩
  · rw [fr_rf f]
    by_cases e : r' = r
    · rw [e]; exact hrow
    · have ge' := q_ml_ge (r2 r' a b).1.1
      have sep : q_rf M 13 r + 24 ≤ q_rf M 13 r' ∨ q_rf M 13 r' + 24 ≤ q_rf M 13 r := by
        rcases Int.lt_trichotomy r r' with q | q | q
        · exact Or.inl (r3 r r' hr.1 q b)
        · exact absurd q.symm e
        · exact Or.inr (r3 r' r a q hr.2)
      exact C_row_fr (r2 r' a b) f (fun x j p q w => by have := z x j w; omega)
  · rw [fr_rf f, fr_rf f]; exact r3 x y a b c
  · rw [fr_rf f, fr_rf f]; exact r4 x y a b c d
  · have s := r4 r x hr.1 hr.2 p q
    have s2 := s.resolve_left e
    have q1 := (h4 x p q).1
    have z1 := z _ _ w
    cases e2 : w_SO W x with
    | none => exact absurd e2 e
    | some sc => rw [e2] at q1; have := q1.1.1.1; omega
theorem c_139W {d : Nat} {P : Int → qM → Prop} {M : qM} {W : qW} {r : Int} (hl : q_lay M) (g : WG W) (h : WC W M) (K1 : (0 ≤ r ∧ r < w_nr W) → ∀ M', fr Zc M M' → q_lay M' → WC W M' → q_rf M' 13 r = q_rf M 13 r → w_ctx W M' (q_rf M 13 r) r → w_rdy W M' (q_rf M 13 r) r → q_nm M' (q_rf M 13 r) 2 = w_nw W → P (q_rf M 13 r) M') (K0 : ¬ (0 ≤ r ∧ r < w_nr W) → P (-1) M) : q_WP q_Pr (d + 6) 139 [.inr (.inr 0), .inl r] M P := by
  refine c_139 (m := q_rf M 13 r) (ln := w_RL W r) hl h.2.2.1.1 g.2.2.1.1 (fun hr => ⟨rfl, WC_ctx g h hr, fun e => ((h.2.2.1.2.1 r hr.1 hr.2).2.2.2 e).1⟩) (fun hr M' f1 c1 c2 c3 => ?_) K0
  have row := h.2.2.1.2.1 r hr.1 hr.2
  have ge := q_ml_ge row.1.1
  have fz : fr Zc M M' := fr_mono f1 (fun a j q => by unfold ZR at q; unfold Zc; omega)
  have hrow : C_row W M' (q_rf M 13 r) (w_RL W r) := by
    refine ⟨C_M_fr row.1 f1 (fun j => by unfold ZR; omega), by rw [fr_top f1]; exact row.2.1, ?_, fun e => ⟨c1, fun k a b q => ?_⟩⟩
    · rw [c2]; have := g.2.1.1; omega
    · rcases c3 with ⟨e1, e2⟩ | e1
      · rw [e1] at q ⊢; exact (row.2.2.2 e2).2 k a b q
      · exact absurd (e1 k a b) q
  have wc := WC_row g h hr f1 (fun a j q => by unfold ZR at q; omega) hrow
  have er := fr_rf f1 13 r
  have cx := WC_ctx g wc hr
  rw [er] at cx
  exact K1 hr M' fz (fr_lay f1 hl) wc er cx c1 c2
theorem c_142W {d : Nat} {P : Int → qM → Prop} {M : qM} {W : qW} {r k : Int} (hl : q_lay M) (g : WG W) (h : WC W M) (hr : 0 ≤ r ∧ r < w_nr W) (hk : 0 ≤ k ∧ k < 5) (hs : q_nm M (q_rf M 13 r) 2 = w_nw W) (K : ∀ M', fr Zc M M' → q_lay M' → WC W M' → q_rf M' 13 r = q_rf M 13 r → q_nm M' (q_rf M 13 r) 2 = w_nw W → w_rdy W M' (q_rf M 13 r) r → C_wt M' (q_rf M 13 r) k (w_wt W r k) (w_tx W r) (w_T W r).length → (∀ k', 0 ≤ k' → k' < 5 → k' ≠ k → C_wt M (q_rf M 13 r) k' (w_wt W r k') (w_tx W r) (w_T W r).length → C_wt M' (q_rf M 13 r) k' (w_wt W r k') (w_tx W r) (w_T W r).length) → P 0 M') : q_WP q_Pr (d + 7) 142 [.inr (.inr 0), .inr (.inr (q_rf M 13 r)), .inl k] M P := by
  have row := h.2.2.1.2.1 r hr.1 hr.2
  have ge := q_ml_ge row.1.1
  have rd := row.2.2.2 hs
  refine c_142 (so := w_SO W k) (WC_ctx g h hr) rd.1 (h.2.2.2.1 k hk.1 hk.2).1 (h.2.2.1.2.2.2 r k hr.1 hr.2 hk.1 hk.2) hk (fun q => rd.2 k hk.1 hk.2 q) (fun M' f1 c1 c2 => ?_)
  have kp : ∀ a j, ¬ ((a = q_rf M 13 r + 2 ∧ j = k) ∨ ZW (q_rf M 13 r) k a j ∨ ZS (q_rf M 13 r) k a j) → q_nm M' a j = q_nm M a j := fun a j q => f1.2 a j q
  have rdy' : w_rdy W M' (q_rf M 13 r) r := by
    obtain ⟨t1, t2, t3⟩ := rd.1
    refine ⟨⟨(kp _ _ (by unfold ZW ZS; omega)).trans t1.1, fun i hi => ⟨(kp _ _ (by unfold ZW ZS; omega)).trans (t1.2 i hi).1, (kp _ _ (by unfold ZW ZS; omega)).trans (t1.2 i hi).2.1, (kp _ _ (by unfold ZW ZS; omega)).trans (t1.2 i hi).2.2⟩⟩, fun i hi => C_de_fr (t2 i hi) (fun a _ _ => kp _ _ (by unfold ZW ZS; omega)), fun j hj => ?_⟩
    obtain ⟨l, a, b⟩ := t3 j hj
    exact ⟨l, a, (kp _ _ (by unfold ZW ZS; omega)).trans b⟩
  have oth : ∀ k', 0 ≤ k' → k' < 5 → k' ≠ k → C_wt M (q_rf M 13 r) k' (w_wt W r k') (w_tx W r) (w_T W r).length → C_wt M' (q_rf M 13 r) k' (w_wt W r k') (w_tx W r) (w_T W r).length := fun k' a b ne q =>
    ⟨fun i hi => (kp _ _ (by unfold ZW ZS; omega)).trans (q.1 i hi), (kp _ _ (by unfold ZW ZS; omega)).trans q.2.1, fun i hi hh => (kp _ _ (by unfold ZW ZS; omega)).trans (q.2.2 i hi hh)⟩
  have e2 : q_nm M' (q_rf M 13 r) 2 = w_nw W := (kp _ _ (by unfold ZW ZS; omega)).trans hs
  have hrow : C_row W M' (q_rf M 13 r) (w_RL W r) := by
    refine ⟨C_M_fr row.1 f1 (fun j => by unfold ZW ZS; omega), by rw [fr_top f1]; exact row.2.1, by rw [e2]; have := g.2.1.1; omega, fun _ => ⟨rdy', fun k' a b q => ?_⟩⟩
    by_cases ek : k' = k
    · rw [ek]; exact c2
    · refine oth k' a b ek (rd.2 k' a b ?_)
      rw [kp _ _ (by unfold ZW ZS; omega)] at q; exact q
  have er := fr_rf f1 13 r
  exact K M' (fr_mono f1 (fun a j q => by unfold ZW ZS at q; unfold Zc; omega)) (fr_lay f1 hl) (WC_row g h hr f1 (fun a j q => by unfold ZW ZS at q; omega) hrow) er e2 rdy' c2 oth
theorem C_mk {W : qW} {M : qM} (h : WC W M) {k : Int} (h0 : 0 ≤ k ∧ k < 5) : ¬ q_rf M 14 k = -1 ↔ ∃ sc, w_SO W k = some sc := by
  have q := (h.2.2.2.1 k h0.1 h0.2).1
  cases e : w_SO W k with
  | none => rw [e] at q; exact ⟨fun z => absurd q z, fun ⟨_, z⟩ => absurd z (by simp)⟩
  | some sc => rw [e] at q; have := q.1.1.1; exact ⟨fun _ => ⟨sc, rfl⟩, fun _ => by omega⟩
def w_mk (W : qW) (k : Int) : Prop := (0 ≤ k ∧ k < 4) ∧ ∃ sc, w_SO W k = some sc
theorem c_140W {d : Nat} {P : Int → qM → Prop} {M : qM} {W : qW} {r k : Int} (hl : q_lay M) (g : WG W) (h : WC W M) (K1 : w_mk W k → (0 ≤ r ∧ r < w_nr W) → ∀ M', fr Zc M M' → q_lay M' → WC W M' → w_ctx W M' (q_rf M 13 r) r → w_rdy W M' (q_rf M 13 r) r → C_wt M' (q_rf M 13 r) k (w_wt W r k) (w_tx W r) (w_T W r).length → q_rf M' 13 r = q_rf M 13 r → q_nm M' (q_rf M 13 r) 2 = w_nw W → P (q_rf M 13 r) M') (K0 : ¬ (w_mk W k ∧ (0 ≤ r ∧ r < w_nr W)) → P (-1) M) : q_WP q_Pr (d + 8) 140 [.inr (.inr 0), .inl r, .inl k] M P := by
  refine q_enter (t_140_0 (d := d + 6) hl ⟨fun z => ?_, fun z => K0 (fun q => z ⟨q.1.1, (C_mk h ⟨q.1.1.1, by have := q.1.1.2; omega⟩).mpr q.1.2⟩)⟩)
  have mk : w_mk W k := ⟨z.1, (C_mk h (by omega)).mp z.2⟩
  refine c_139W (d := d + 1) hl g h (fun hr M1 f1 l1 w1 er cx rd e2 => ⟨l1, ?_, ?_⟩) (fun hr => ⟨hl, fun y => K0 (fun q => hr q.2), fun y => absurd rfl y⟩)
  · intro y
    have ge := q_ml_ge cx.1.1
    omega
  · intro _
    have e2' : q_nm M1 (q_rf M1 13 r) 2 = w_nw W := by rw [er]; exact e2
    rw [← er]
    refine c_142W l1 g w1 hr (by omega) e2' (fun M2 f2 l2 w2 er2 e22 rd2 wt2 _ => ⟨l2, ?_⟩)
    rw [er] at er2 e22 rd2 wt2 ⊢
    have cx2 := WC_ctx g w2 hr
    rw [er2] at cx2
    exact K1 mk hr M2 (fr_trans f1 f2) l2 w2 cx2 rd2 wt2 er2 e22
/-- weighed by all makings that are there -/
theorem c_141l {d : Nat} {P : Int → qM → Prop} {M0 : qM} {W : qW} {r : Int} {c s : Nat} (g : WG W) (hr : 0 ≤ r ∧ r < w_nr W) (K : ∀ M', fr Zc M0 M' → q_lay M' → WC W M' → q_rf M' 13 r = q_rf M0 13 r → w_rdy W M' (q_rf M0 13 r) r → q_nm M' (q_rf M0 13 r) 2 = w_nw W → (∀ k, w_mk W k → C_wt M' (q_rf M0 13 r) k (w_wt W r k) (w_tx W r) (w_T W r).length) → P (q_rf M0 13 r) M') : ∀ (n : Nat) (y : Int) (M : qM), 0 ≤ y → y + n = 4 → fr Zc M0 M → q_lay M → WC W M → q_rf M 13 r = q_rf M0 13 r → w_rdy W M (q_rf M0 13 r) r → q_nm M (q_rf M0 13 r) 2 = w_nw W → (∀ k, w_mk W k → k < y → C_wt M (q_rf M0 13 r) k (w_wt W r k) (w_tx W r) (w_T W r).length) → q_At q_m141 (q_WP q_Pr (d + 7)) P 8 [(0, .inr (.inr 0)), (2, .inr (.inr (q_rf M0 13 r))), (3, .inl y)] [] M c s := by
  intro n
  induction n with
  | zero =>
    intro y M h0 h1 hf hl hw er rd e2 hk
    exact t_141_8 (d := d + 6) hl ⟨fun _ => K M hf hl hw er rd e2 (fun k a => hk k a (by have := a.1; omega)), fun z => absurd z (by omega)⟩
  | succ n ih =>
    intro y M h0 h1 hf hl hw er rd e2 hk
    have ge := q_ml_ge (WC_ctx g hw hr).1.1
    refine t_141_8 (d := d + 6) hl ?_
    rw [w32_id (x := y + 1) (by omega) (by omega)]
    refine ⟨fun z => absurd z (by omega), fun _ => ⟨fun z => by omega, fun _ => ⟨fun z => ?_, fun z => ?_⟩⟩⟩
    · rw [← er]
      refine c_142W hl g hw hr (by omega) (by rw [er]; exact e2) (fun M2 f2 l2 w2 er2 e22 rd2 wt2 ot => ⟨l2, ?_⟩)
      rw [er] at er2 e22 rd2 wt2 ot ⊢
      refine ih (y + 1) M2 (by omega) (by omega) (fr_trans hf f2) l2 w2 er2 rd2 e22 (fun k a b => ?_)
      by_cases ek : k = y
      · rw [ek]; exact wt2
      · exact ot k a.1.1 (by have := a.1; omega) ek (hk k a (by omega))
    · refine ih (y + 1) M (by omega) (by omega) hf hl hw er rd e2 (fun k a b => ?_)
      by_cases ek : k = y
      · rw [ek] at a
        exact absurd ⟨a.1, (C_mk hw (by omega)).mpr a.2⟩ z
      · exact hk k a (by omega)
theorem c_141n {d : Nat} {P : Int → qM → Prop} {M : qM} {c s : Nat} (hl : q_lay M) (K : P (-1) M) : ∀ (n : Nat) (y : Int), 0 ≤ y → y + n = 4 → q_At q_m141 (q_WP q_Pr (d + 7)) P 8 [(0, .inr (.inr 0)), (2, .inr (.inr (-1))), (3, .inl y)] [] M c s := by
  intro n
  induction n with
  | zero => intro y h0 h1; exact t_141_8 (d := d + 6) hl ⟨fun _ => K, fun z => absurd z (by omega)⟩
  | succ n ih =>
    intro y h0 h1
    refine t_141_8 (d := d + 6) hl ?_
    rw [w32_id (x := y + 1) (by omega) (by omega)]
    exact ⟨fun z => absurd z (by omega), fun _ => ⟨fun _ => ih (y + 1) (by omega) (by omega), fun z => absurd rfl z⟩⟩
theorem c_141W {d : Nat} {P : Int → qM → Prop} {M : qM} {W : qW} {r : Int} (hl : q_lay M) (g : WG W) (h : WC W M) (K1 : (0 ≤ r ∧ r < w_nr W) → ∀ M', fr Zc M M' → q_lay M' → WC W M' → w_ctx W M' (q_rf M 13 r) r → w_rdy W M' (q_rf M 13 r) r → (∀ k, w_mk W k → C_wt M' (q_rf M 13 r) k (w_wt W r k) (w_tx W r) (w_T W r).length) → P (q_rf M 13 r) M') (K0 : ¬ (0 ≤ r ∧ r < w_nr W) → P (-1) M) : q_WP q_Pr (d + 8) 141 [.inr (.inr 0), .inl r] M P := by
  refine q_enter (t_141_0 hl (c_139W (d := d + 1) hl g h (fun hr M1 f1 l1 w1 er cx rd e2 => ⟨l1, ?_⟩) (fun hr => ⟨hl, c_141n hl (K0 hr) 4 0 (Int.le_refl 0) (by decide)⟩)))
  rw [← er]
  rw [← er] at rd e2
  refine c_141l g hr (fun M2 f2 l2 w2 er2 rd2 e22 wt2 => ?_) 4 0 M1 (Int.le_refl 0) (by decide) fr_rfl l1 w1 rfl rd e2 (fun k a b => absurd a.1.1 (by omega))
  have cx2 := WC_ctx g w2 hr
  rw [er2] at cx2
  rw [er] at rd2 wt2 cx2 ⊢
  exact K1 hr M2 (fr_trans f1 f2) l2 w2 cx2 rd2 wt2
/-- the reference lays a row out, weighs it -/
theorem WR_Y {W : qW} {M M' : qM} {Z : Int → Int → Prop} {r : Int} (h : WR W M) (f : fr Z M M') (z : ∀ a j, Z a j → (a = 66 ∧ (j = 65 ∨ j = 55 ∨ j = 56 ∨ j = 67 ∨ j = 69 ∨ j = 77)) ∨ (108 ≤ a ∧ a ≤ 118) ∨ a = 123 ∨ a = 124) (hr : 0 ≤ r ∧ r < w_nr W) (e1 : q_nm M' 66 56 = r) (e2 : q_nm M' 66 67 = w_nw W) (hT : R_TK M' (w_nw W) (w_WL W) (w_RL W r) (w_T W r)) : WR W M' := by
  have k : ∀ a j, ¬ ((a = 66 ∧ (j = 65 ∨ j = 55 ∨ j = 56 ∨ j = 67 ∨ j = 69 ∨ j = 77)) ∨ (108 ≤ a ∧ a ≤ 118) ∨ a = 123 ∨ a = 124) → q_nm M' a j = q_nm M a j := fun a j x => f.2 a j (fun w => x (z a j w))
  obtain ⟨h1, h2, ⟨h3, h4, h5⟩, h6, h7, h8, h9, h10⟩ := h
  refine ⟨R_T_fr h1 (k _ _ (by omega)) (fun j => k _ _ (by omega)), R_W_fr h2 (k _ _ (by omega)) (fun a j _ _ => k _ _ (by omega)), ⟨(k _ _ (by omega)).trans h3, fun r a b => R_row_fr (h4 r a b) (fun a j _ _ => k _ _ (by omega)), ?_⟩, fun j a b => R_so_fr (h6 j a b) (fun a j _ _ => k _ _ (by omega)), ⟨(k _ _ (by omega)).trans h7.1, (k _ _ (by omega)).trans h7.2⟩, ⟨(k _ _ (by omega)).trans h8.1, q_L_fr h8.2 (fun j _ _ => k _ _ (by omega))⟩, R_N_fr h9 (k _ _ (by omega)) (fun a j _ _ => k _ _ (by omega)), R_P_fr h10 (k _ _ (by omega)) (fun j => k _ _ (by omega))⟩
  unfold R_Y
  rw [e1, e2]
  exact ⟨⟨by omega, hr.2, Int.le_refl _⟩, fun _ _ => hT⟩
theorem r_201W {d : Nat} {P : Int → qM → Prop} {M : qM} {W : qW} {r : Int} (hl : q_lay M) (g : WG W) (h : WR W M) (hr : 0 ≤ r ∧ r < w_nr W) (K : ∀ M', fr Zr M M' → q_lay M' → WR W M' → R_rdy M' (w_nw W) (w_WL W) (w_WS W) (w_WE W) (w_WO W) r (w_RL W r) → P 0 M') : q_WP q_Pr (d + 6) 201 [.inr (.inr 66), .inl r] M P := by
  refine r_201 hl h.2.1 g.2.1 (h.2.2.1.2.1 r hr.1 hr.2) (g.2.2.1.2 r hr.1 hr.2) h.2.2.1.2.2 hr (fun M' f1 c1 c2 c3 => ?_)
  have wr := WR_Y h f1 (fun a j q => by unfold ZY at q; omega) hr c1 c2 c3
  exact K M' (fr_mono f1 (fun a j q => by unfold ZY at q; unfold Zr; omega)) (fr_lay f1 hl) wr ⟨⟨wr.2.1, g.2.1, g.2.2.1.2 r hr.1 hr.2⟩, ⟨c1, c2⟩, wr.2.2.1.2.1 r hr.1 hr.2, c3⟩
theorem r_215W {d : Nat} {P : Int → qM → Prop} {M : qM} {W : qW} {r k : Int} (hl : q_lay M) (g : WG W) (h : WR W M) (hr : 0 ≤ r ∧ r < w_nr W) (hk : w_mk W k) (K : ∀ M', fr Zr M M' → q_lay M' → WR W M' → R_rdy M' (w_nw W) (w_WL W) (w_WS W) (w_WE W) (w_WO W) r (w_RL W r) → (∀ i : Nat, i < (w_T W r).length → q_nm M' 118 i = w_wt W r k i) → P (sumN (w_wt W r k) (w_T W r).length) M') : q_WP q_Pr (d + 7) 215 [.inr (.inr 66), .inl r, .inl k] M P := by
  obtain ⟨hk0, sc, esc⟩ := hk
  have so := h.2.2.2.1 k hk0.1 (by omega)
  rw [esc] at so
  have ew : w_wt W r k = wK (w_nw W) (w_WL W) (w_WS W) (w_WE W) (w_WO W) (w_RL W r) k (some sc) := by show wK _ _ _ _ _ _ _ (w_SO W k) = _; rw [esc]
  refine r_215 hl h.2.1 g.2.1 (h.2.2.1.2.1 r hr.1 hr.2) (g.2.2.1.2 r hr.1 hr.2) h.2.2.1.2.2 hr hk0 so.2.1 so.2.2 (fun M' f1 c1 c2 => ?_)
  rw [← ew] at c2 ⊢
  have wr := WR_Y h f1 (fun a j q => by unfold ZV ZY Zp at q; omega) hr c1.2.1.1 c1.2.1.2 c1.2.2.2
  exact K M' (fr_mono f1 (fun a j q => by unfold ZV ZY Zp at q; unfold Zr; omega)) (fr_lay f1 hl) wr c1 c2
theorem R_mk {W : qW} {M : qM} (h : WR W M) {k : Int} : ((0 ≤ k ∧ k ≤ 3) ∧ ¬ q_nm M 100 k = 0) ↔ w_mk W k := by
  constructor
  · rintro ⟨a, b⟩
    refine ⟨by omega, ?_⟩
    have q := h.2.2.2.1 k a.1 (by omega)
    cases e : w_SO W k with
    | none => rw [e] at q; exact absurd q b
    | some sc => exact ⟨sc, rfl⟩
  · rintro ⟨a, sc, e⟩
    have q := h.2.2.2.1 k a.1 (by omega)
    rw [e] at q
    exact ⟨by omega, q.1⟩
end
