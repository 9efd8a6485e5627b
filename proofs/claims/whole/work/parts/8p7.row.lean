section
theorem m_lay_mv {M M' : qM} {m n mo : Int} (h : m_lay M m n mo) (kk : ∀ a, q_kd M' a = q_kd M a) (nn : ∀ a, q_ln M' a = q_ln M a) (rr : ∀ a j, a ≠ 13 → q_rf M' a j = q_rf M a j) : m_lay M' m n mo := by
  obtain ⟨m0, m1, m2, m3, m4, m5, m6, m7, m8, m9, m10, m11, m12, m18, mw', ms'⟩ := h
  have tr : ∀ (f a k l : Int), (q_rf M m f = a ∧ q_kd M a = k ∧ q_ln M a = l) → (q_rf M' m f = a ∧ q_kd M' a = k ∧ q_ln M' a = l) := fun f a k l z => ⟨(rr m f (by omega)).trans z.1, (kk a).trans z.2.1, (nn a).trans z.2.2⟩
  refine ⟨m0, ⟨(kk m).trans m1.1, (rr m 0 (by omega)).trans m1.2⟩, tr _ _ _ _ m2, tr _ _ _ _ m3, tr _ _ _ _ m4, tr _ _ _ _ m5, tr _ _ _ _ m6, tr _ _ _ _ m7, tr _ _ _ _ m8, tr _ _ _ _ m9, tr _ _ _ _ m10, tr _ _ _ _ m11, tr _ _ _ _ m12, tr _ _ _ _ m18, tr _ _ _ _ mw', fun i a b => ?_, fun i a b => ?_⟩
  · have z := ms'.1 i a b
    exact ⟨(rr (m + 12) i (by omega)).trans z.1, (kk _).trans z.2.1, (nn _).trans z.2.2⟩
  · have z := ms'.2 i a b
    exact ⟨(rr (m + 18) i (by omega)).trans z.1, (kk _).trans z.2.1, (nn _).trans z.2.2⟩
theorem c_100b {d : Nat} {P : Int → qM → Prop} {M0 M : qM} {W : qW} {L : List Int} {y : Nat} {c s : Nat} (hc : c = 1) (hs : s = 6) (hL : L.length = 6) (hl : q_lay M0) (g : WG W) (w : WC W M0) (gM : gp M0 M) (ht : q_top M = q_top M0 + 1) (hk : q_kd M (q_top M0) = 14) (hn : q_ln M (q_top M0) = 6) (hv : ∀ i : Nat, i < 6 → q_nm M (q_top M0) i = L.getD i 0) (hy : y ≤ 6) (h1 : ∀ i, i < y → 0 ≤ L.getD i 0 ∧ L.getD i 0 < w_nw W) (h2 : y < 6 → L.getD y 0 = -1) (K1 : okRw W L → ∀ M', kR M0 M' → WC (w_addR W (lnOf L)) M' → P (w_nr W) M') (K0 : ¬ okRw W L → P (-1) M) : ∀ (n z : Nat), z + n = 6 → y ≤ z → (∀ i, y ≤ i → i < z → L.getD i 0 = -1) → q_At q_m100 (q_WP q_Pr (d + 2)) P 79 [(0, .inr (.inr 0)), (7, .inr (.inr (q_top M0))), (8, .inl (y : Int)), (9, .inl (z : Int))] [] M c s := by
  have lM : q_lay M := gx_lay hl (gp_gx (nr := 0) gM)
  have t126 := hl.1
  have gn := g.2.2.1.1
  have e3 : q_nm M 0 3 = w_nr W := ((gM.2 0 (by omega)).2.2.1 3).trans w.2.2.1.1
  intro n
  induction n with
  | zero =>
    intro z h0 hz h3
    refine t_100_79 lM ⟨fun _ => ⟨fun q => ?_, fun q => ?_⟩, fun q => absurd q (by omega)⟩
    · refine K0 (fun ok => ?_)
      obtain ⟨m, rp⟩ := ok.2
      have := (rp.2.1 0 (by have := rp.1; omega)).1
      have := h2 (by omega)
      have y0 : y = 0 := by omega
      rw [y0] at this; omega
    · have rp : rwP (w_nw W) L y := ⟨by omega, h1, fun i a b => h3 i a (by omega)⟩
      have ll := lnOf_len hL rp
      rw [e3]
      refine ⟨fun v => ?_, fun v => K0 (fun ok => by have := ok.1; omega)⟩
      have ok : okRw W L := ⟨v, y, rp⟩
      intro N1
      obtain ⟨M1, e1⟩ : ∃ x, x = N1 := ⟨_, rfl⟩
      rw [← e1]
      have a1 := gp_al (k := 1) e1
      have k10 : q_kd M1 0 = 10 := ((a1.1.2 0 (by omega)).1).trans (lk0 lM)
      have pg := a1.1.2 (q_top M0) (by omega)
      refine ⟨⟨by omega, by subst hs; decide⟩, k10, ⟨by omega, by subst hs; decide⟩, ?_⟩
      refine c_263 (d := d) (x := q_top M0) (n := y) (by have := a1.2.1; omega) (pg.1.trans hk) (pg.2.1.trans hn) hy (fun M3 g3 t3 k3 n3 v3 => ⟨?_, ?_⟩)
      · exact gx_lay lM (gp_gx (nr := 0) (gp_trans a1.1 g3))
      · have tm : q_top M1 = q_top M + 1 := a1.2.1
        have pm := g3.2 (q_top M) (by omega)
        have r01 : q_rf M1 0 1 = 3 := ((a1.1.2 0 (by omega)).2.2.2 1).trans (lr0_1 lM)
        refine ⟨pm.1.trans a1.2.2.1, ⟨by omega, by subst hs; decide⟩, ?_⟩
        rw [r01, tm]
        rw [tm] at k3 n3 v3 t3
        have l3 : q_lay M3 := gx_lay lM (gp_gx (nr := 0) (gp_trans a1.1 g3))
        refine c_5 (d := d + 1) (m := q_top M) (n := y) (by omega) (by omega) (pm.1.trans a1.2.2.1) k3 n3 hy (fun M5 t5 s5 ml => ?_)
        have g5 : gp M0 M5 := by
          have g03 := gp_trans gM (gp_trans a1.1 g3)
          refine ⟨by omega, fun a ha => ?_⟩
          have p := g03.2 a ha
          have q := s5 a (by omega)
          exact ⟨q.1.trans p.1, q.2.1.trans p.2.1, fun j => (q.2.2.1 j).trans (p.2.2.1 j), fun j => (q.2.2.2 (by omega) j).trans (p.2.2.2 j)⟩
        have l5 : q_lay M5 := gx_lay hl (gp_gx (nr := 0) g5)
        have k5 : q_kd M5 (q_top M) = 1 := ml.2.1.1
        refine ⟨l5, ⟨by rw [k5]; rfl, by omega, by omega⟩, ?_⟩
        intro N6
        obtain ⟨M6, e6⟩ : ∃ x, x = N6 := ⟨_, rfl⟩
        rw [← e6]
        have r6 : ∀ b j, ¬ (b = 13 ∧ j = w_nr W) → q_rf M6 b j = q_rf M5 b j := fun b j hb => by rw [e6]; show (if b = 13 ∧ j = w_nr W then _ else M5.2.2.1 b j) = _; rw [if_neg hb]; rfl
        have r6n : q_rf M6 13 (w_nr W) = q_top M := by rw [e6]; show (if (13 : Int) = 13 ∧ w_nr W = w_nr W then q_top M else M5.2.2.1 13 (w_nr W)) = _; rw [if_pos ⟨rfl, rfl⟩]
        have k6 : ∀ b, q_kd M6 b = q_kd M5 b ∧ q_ln M6 b = q_ln M5 b ∧ ∀ j, q_nm M6 b j = q_nm M5 b j := fun b => by rw [e6]; exact ⟨rfl, rfl, fun j => rfl⟩
        have t6 : q_top M6 = q_top M5 := by rw [e6]; rfl
        have k60 : q_kd M6 0 = 10 := (k6 0).1.trans (lk0 l5)
        have n60 : q_nm M6 0 3 = w_nr W := ((k6 0).2.2 3).trans (((g5.2 0 (by omega)).2.2.1 3).trans w.2.2.1.1)
        rw [n60, w32_id (x := w_nr W + 1) (by omega) (by omega)]
        refine ⟨k60, k60, ?_⟩
        intro N7
        obtain ⟨M7, e7⟩ : ∃ x, x = N7 := ⟨_, rfl⟩
        rw [← e7]
        have f7 : fr (fun a j => a = 0 ∧ j = 3) M6 M7 := fr_wn e7 ⟨rfl, rfl⟩
        have n7 : q_nm M7 0 3 = w_nr W + 1 := wn_eq e7
        rw [n7, show w_nr W + 1 - 1 = w_nr W by omega, w32_id (x := w_nr W) (by omega) (by omega)]
        refine ⟨(fr_kd f7 0).trans k60, ?_⟩
        have G7 : gx (w_nr W) M0 M7 := by
          refine ⟨by rw [fr_top f7, t6]; exact g5.1, fun a ha => ?_⟩
          have p := g5.2 a ha
          exact ⟨(fr_kd f7 a).trans ((k6 a).1.trans p.1), (fr_ln f7 a).trans ((k6 a).2.1.trans p.2.1), fun j hj => (f7.2 a j hj).trans (((k6 a).2.2 j).trans (p.2.2.1 j)), fun j hj => (fr_rf f7 a j).trans ((r6 a j hj).trans (p.2.2.2 j))⟩
        have l7 : q_lay M7 := gx_lay hl G7
        have ml7 : m_lay M7 (q_top M) y (mst y) := by
          exact m_lay_mv ml (fun a => (fr_kd f7 a).trans (k6 a).1) (fun a => (fr_ln f7 a).trans (k6 a).2.1) (fun a j ha => (fr_rf f7 a j).trans (r6 a j (fun q => ha q.1)))
        have v7 : ∀ a j, q_top M0 ≤ a → a < q_top M + 2 → q_nm M7 a j = q_nm M3 a j := fun a j u v => (f7.2 a j (by omega)).trans (((k6 a).2.2 j).trans ((s5 a v).2.2.1 j))
        refine K1 ok M7 (gx_kR hl G7) (WC_gxA (m := q_top M) hl g w G7 n7 ((fr_rf f7 13 _).trans r6n) (by omega) ⟨⟨l7, by rw [ll.1]; exact ml7⟩, fun i hi => ?_⟩ (by rw [fr_top f7, t6]; omega) ?_ ?_)
        · rw [ll.1] at hi
          rw [Int.zero_add, ll.2 i hi, v7 _ _ (by omega) (by omega), v3 i hi]
          exact (pg.2.2.1 i).trans (hv i (by omega))
        · rw [v7 _ _ (by omega) (by omega), pm.2.2.1]; exact a1.2.2.2.2 2
        · have := h1 0 (by omega); omega
  | succ n ih =>
    intro z h0 hz h3
    refine t_100_79 lM ⟨fun q => absurd q (by omega), fun _ => ?_⟩
    rw [hk, hn, hv z (by omega), w32_id (x := (z : Int) + 1) (by omega) (by omega), show (z : Int) + 1 = ((z + 1 : Nat) : Int) by omega]
    refine ⟨⟨rfl, by omega, by omega⟩, fun q => ih (z + 1) (by omega) (by omega) (fun i a b => ?_), fun q => K0 (fun ok => ?_)⟩
    · by_cases e : i = z
      · rw [e]; exact q
      · exact h3 i a (by omega)
    · obtain ⟨m, rp⟩ := ok.2
      have my : m ≤ y := by
        rcases Nat.lt_or_ge y m with u | u
        · have := (rp.2.1 y u).1
          have := h2 (by have := rp.1; omega)
          omega
        · exact u
      exact q (rp.2.2 z (by omega) (by omega))
theorem c_100a {d : Nat} {P : Int → qM → Prop} {M0 M : qM} {W : qW} {L : List Int} {c s : Nat} (hc : c = 1) (hs : s = 6) (hL : L.length = 6) (hl : q_lay M0) (g : WG W) (w : WC W M0) (gM : gp M0 M) (ht : q_top M = q_top M0 + 1) (hk : q_kd M (q_top M0) = 14) (hn : q_ln M (q_top M0) = 6) (hv : ∀ i : Nat, i < 6 → q_nm M (q_top M0) i = L.getD i 0) (K1 : okRw W L → ∀ M', kR M0 M' → WC (w_addR W (lnOf L)) M' → P (w_nr W) M') (K0 : ¬ okRw W L → P (-1) M) : ∀ (n y : Nat), y + n = 6 → (∀ i, i < y → 0 ≤ L.getD i 0 ∧ L.getD i 0 < w_nw W) → q_At q_m100 (q_WP q_Pr (d + 2)) P 36 [(0, .inr (.inr 0)), (7, .inr (.inr (q_top M0))), (8, .inl (y : Int))] [] M c s := by
  have lM : q_lay M := gx_lay hl (gp_gx (nr := 0) gM)
  have t126 := hl.1
  have e9 : q_nm M 3 9 = w_nw W := ((gM.2 3 (by omega)).2.2.1 9).trans w.2.1.1.1
  intro n
  induction n with
  | zero =>
    intro y h0 h1
    refine t_100_36 (d := d + 1) lM ⟨fun _ => ?_, fun q => absurd q (by omega)⟩
    exact c_100b (d := d) hc hs hL hl g w gM ht hk hn hv (by omega) h1 (fun q => absurd q (by omega)) K1 K0 0 y (by omega) (Nat.le_refl y) (fun i a b => absurd a (by omega))
  | succ n ih =>
    intro y h0 h1
    refine t_100_36 (d := d + 1) lM ⟨fun q => absurd q (by omega), fun _ => ?_⟩
    rw [hk, hn, hv y (by omega), e9, w32_id (x := (y : Int) + 1) (by omega) (by omega), show (y : Int) + 1 = ((y + 1 : Nat) : Int) by omega]
    refine ⟨⟨rfl, by omega, by omega⟩, fun q => ?_, fun q => ⟨⟨rfl, by omega, by omega⟩, fun v => ih (y + 1) (by omega) (fun i hi => ?_), fun v => K0 (fun ok => ?_)⟩⟩
    · exact c_100b (d := d) hc hs hL hl g w gM ht hk hn hv (by omega) h1 (fun _ => q) K1 K0 (6 - y) y (by omega) (Nat.le_refl y) (fun i a b => absurd a (by omega))
    · by_cases e : i = y
      · rw [e]; exact v
      · exact h1 i (by omega)
    · obtain ⟨m, rp⟩ := ok.2
      rcases Nat.lt_or_ge y m with u | u
      · exact v (rp.2.1 y u)
      · exact q (rp.2.2 y u (by omega))
theorem c_100W {d : Nat} {P : Int → qM → Prop} {M : qM} {W : qW} {x1 x2 x3 x4 x5 x6 : Int} (hl : q_lay M) (g : WG W) (w : WC W M) (K1 : okRw W [x1, x2, x3, x4, x5, x6] → ∀ M', kR M M' → WC (w_addR W (lnOf [x1, x2, x3, x4, x5, x6])) M' → P (w_nr W) M') (K0 : ¬ okRw W [x1, x2, x3, x4, x5, x6] → ∀ M', kR M M' → WC W M' → P (-1) M') : q_WP q_Pr (d + 3) 100 [.inr (.inr 0), .inl x1, .inl x2, .inl x3, .inl x4, .inl x5, .inl x6] M P := by
  have t126 := hl.1
  refine q_enter (t_100_0 (d := d + 2) hl ⟨⟨by decide, by decide⟩, ?_⟩)
  intro N1
  obtain ⟨M1, e1⟩ : ∃ x, x = N1 := ⟨_, rfl⟩
  rw [← e1]
  have a1 := gp_al (k := 14) e1
  refine ⟨⟨by decide, by decide⟩, ⟨⟨by omega, a1.2.2.1⟩, by decide, by rw [a1.2.2.2.1]; decide⟩, ?_⟩
  intro N2
  obtain ⟨M2, e2⟩ : ∃ x, x = N2 := ⟨_, rfl⟩
  rw [← e2]
  have f2 : fr (fun a _ => a = q_top M) M1 M2 := fr_wn e2 rfl
  refine ⟨⟨⟨by omega, (fr_kd f2 _).trans a1.2.2.1⟩, by decide, by rw [fr_ln f2, a1.2.2.2.1]; decide⟩, ?_⟩
  intro N3
  obtain ⟨M3, e3⟩ : ∃ x, x = N3 := ⟨_, rfl⟩
  rw [← e3]
  have f3 : fr (fun a _ => a = q_top M) M1 M3 := fr_trans f2 (fr_wn e3 rfl)
  refine ⟨⟨⟨by omega, (fr_kd f3 _).trans a1.2.2.1⟩, by decide, by rw [fr_ln f3, a1.2.2.2.1]; decide⟩, ?_⟩
  intro N4
  obtain ⟨M4, e4⟩ : ∃ x, x = N4 := ⟨_, rfl⟩
  rw [← e4]
  have f4 : fr (fun a _ => a = q_top M) M1 M4 := fr_trans f3 (fr_wn e4 rfl)
  refine ⟨⟨⟨by omega, (fr_kd f4 _).trans a1.2.2.1⟩, by decide, by rw [fr_ln f4, a1.2.2.2.1]; decide⟩, ?_⟩
  intro N5
  obtain ⟨M5, e5⟩ : ∃ x, x = N5 := ⟨_, rfl⟩
  rw [← e5]
  have f5 : fr (fun a _ => a = q_top M) M1 M5 := fr_trans f4 (fr_wn e5 rfl)
  refine ⟨⟨⟨by omega, (fr_kd f5 _).trans a1.2.2.1⟩, by decide, by rw [fr_ln f5, a1.2.2.2.1]; decide⟩, ?_⟩
  intro N6
  obtain ⟨M6, e6⟩ : ∃ x, x = N6 := ⟨_, rfl⟩
  rw [← e6]
  have f6 : fr (fun a _ => a = q_top M) M1 M6 := fr_trans f5 (fr_wn e6 rfl)
  refine ⟨⟨⟨by omega, (fr_kd f6 _).trans a1.2.2.1⟩, by decide, by rw [fr_ln f6, a1.2.2.2.1]; decide⟩, ?_⟩
  intro N7
  obtain ⟨M7, e7⟩ : ∃ x, x = N7 := ⟨_, rfl⟩
  rw [← e7]
  have f7 : fr (fun a _ => a = q_top M) M1 M7 := fr_trans f6 (fr_wn e7 rfl)
  have gM := gp_fr a1.1 f7 (fun a j q => by omega)
  refine c_100a (d := d) (W := W) (L := [x1, x2, x3, x4, x5, x6]) rfl rfl rfl hl g w gM ((fr_top f7).trans a1.2.1) ((fr_kd f7 _).trans a1.2.2.1) ((fr_ln f7 _).trans a1.2.2.2.1) (fun i hi => ?_) K1 (fun nk => K0 nk M7 (gx_kR hl (gp_gx (nr := 0) gM)) (WC_gx0 (nr := w_nr W) hl g w (gp_gx gM) (Int.le_refl _) ((gM.2 0 (by omega)).2.2.1 3))) 6 0 (by omega) (fun i hi => absurd hi (Nat.not_lt_zero i))
  have c : i = 0 ∨ i = 1 ∨ i = 2 ∨ i = 3 ∨ i = 4 ∨ i = 5 := by omega
  rcases c with q | q | q | q | q | q <;> subst q
  · show q_nm M7 (q_top M) 0 = x1; rw [wn_ne e7 (by omega), wn_ne e6 (by omega), wn_ne e5 (by omega), wn_ne e4 (by omega), wn_ne e3 (by omega), wn_eq e2]
  · show q_nm M7 (q_top M) 1 = x2; rw [wn_ne e7 (by omega), wn_ne e6 (by omega), wn_ne e5 (by omega), wn_ne e4 (by omega), wn_eq e3]
  · show q_nm M7 (q_top M) 2 = x3; rw [wn_ne e7 (by omega), wn_ne e6 (by omega), wn_ne e5 (by omega), wn_eq e4]
  · show q_nm M7 (q_top M) 3 = x4; rw [wn_ne e7 (by omega), wn_ne e6 (by omega), wn_eq e5]
  · show q_nm M7 (q_top M) 4 = x5; rw [wn_ne e7 (by omega), wn_eq e6]
  · show q_nm M7 (q_top M) 5 = x6; rw [wn_eq e7]
theorem ok_row' {L : Nat} {X : Int → Int} {D : Nat} : ∀ a b c e f h : Int, q_i32 a → q_i32 b → q_i32 c → q_i32 e → q_i32 f → q_i32 h → q_ok L X (INV L X) (D + 30) 100 163 [.inl a, .inl b, .inl c, .inl e, .inl f, .inl h] := by
  intro a b c e f h _ _ _ _ _ _
  refine q_okQ (fun W => cif (okRw W [a, b, c, e, f, h]) (w_nr W) (-1)) (fun W => cif (okRw W [a, b, c, e, f, h]) (w_addR W (lnOf [a, b, c, e, f, h])) W) (fun W g => ?_) (fun W M hl g w => ?_) (fun W M hl g w => ?_)
  · by_cases o : okRw W [a, b, c, e, f, h]
    · rw [cif_pos o]
      obtain ⟨n, rp⟩ := o.2
      exact addR_G g o.1 rfl rp
    · rw [cif_neg o]; exact g
  · refine c_100W (d := D + 27) hl g w (fun o M' k1 w1 => ?_) (fun o M' k1 w1 => ?_)
    · rw [cif_pos o, cif_pos o]; exact ⟨rfl, k1, w1⟩
    · rw [cif_neg o, cif_neg o]; exact ⟨rfl, k1, w1⟩
  · refine r_163W (d := D + 28) hl g w (fun o M' k1 w1 => ?_) (fun o M' k1 w1 => ?_)
    · rw [cif_pos o, cif_pos o]; exact ⟨rfl, k1, w1⟩
    · rw [cif_neg o, cif_neg o]; exact ⟨rfl, k1, w1⟩
end
