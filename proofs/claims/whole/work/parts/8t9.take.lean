section
/-! A TEXT IS TAKEN INTO ITS SLOT -/
theorem C_sc_k {M M' : qM} {b : Int} {sc : List qS} (q : C_sc M b sc) (p : ∀ a, b ≤ a → a ≤ b + 5 → (q_kd M' a = q_kd M a ∧ q_ln M' a = q_ln M a ∧ (∀ j, q_nm M' a j = q_nm M a j) ∧ ∀ j, q_rf M' a j = q_rf M a j)) : C_sc M' b sc := by
  have p0 := p b (by omega) (by omega)
  refine ⟨?_, (p0.2.2.1 _).trans q.2.1, fun i hi => ?_⟩
  · obtain ⟨s0, s1, s2, s3, s4, s5, s6⟩ := q.1
    exact ⟨s0, p0.1.trans s1, ⟨(p0.2.2.2 _).trans s2.1, (p _ (by omega) (by omega)).1.trans s2.2.1, (p _ (by omega) (by omega)).2.1.trans s2.2.2⟩, ⟨(p0.2.2.2 _).trans s3.1, (p _ (by omega) (by omega)).1.trans s3.2.1, (p _ (by omega) (by omega)).2.1.trans s3.2.2⟩, ⟨(p0.2.2.2 _).trans s4.1, (p _ (by omega) (by omega)).1.trans s4.2.1, (p _ (by omega) (by omega)).2.1.trans s4.2.2⟩, ⟨(p0.2.2.2 _).trans s5.1, (p _ (by omega) (by omega)).1.trans s5.2.1, (p _ (by omega) (by omega)).2.1.trans s5.2.2⟩, ⟨(p0.2.2.2 _).trans s6.1, (p _ (by omega) (by omega)).1.trans s6.2.1, by rw [(p _ (by omega) (by omega)).2.1]; exact s6.2.2⟩⟩
  · obtain ⟨h1, g, h2, h3, h4, h5, h6, h7, h8⟩ := q.2.2 i hi
    refine ⟨((p _ (by omega) (by omega)).2.2.1 _).trans h1, g, h2, ((p _ (by omega) (by omega)).2.2.1 _).trans h3, ((p _ (by omega) (by omega)).2.2.1 _).trans h4, ((p _ (by omega) (by omega)).2.2.1 _).trans h5, by rw [(p _ (by omega) (by omega)).2.1]; exact h6, q_L_fr h7 (fun j _ _ => (p _ (by omega) (by omega)).2.2.1 _), q_L_fr h8 (fun j _ _ => (p _ (by omega) (by omega)).2.2.1 _)⟩
/-- the rows' marks for the slot are cleared -/
theorem c_138l {d : Nat} {P : Int → qM → Prop} {W : qW} {x r : Int} {M M9 : qM} {c s : Nat} (g : WG W) (w : WC W M) (hx : 0 ≤ x ∧ x < 5) (hr : r = q_top M) (h9 : ∀ a, a < r → (q_kd M9 a = q_kd M a ∧ q_ln M9 a = q_ln M a ∧ ∀ j, (a ≠ 14) → q_rf M9 a j = q_rf M a j)) (hn : q_nm M9 0 3 = w_nr W) (hl9 : q_lay M9) (hk : q_kd M9 r = 4 ∧ q_rf M9 r 0 = r + 1 ∧ q_kd M9 (r + 1) = 5) (K : ∀ M', fr (fun a j => ∃ rr, (0 ≤ rr ∧ rr < w_nr W) ∧ a = q_rf M 13 rr + 2 ∧ j = x) M9 M' → (∀ rr, 0 ≤ rr → rr < w_nr W → q_nm M' (q_rf M 13 rr + 2) x = 0) → P (q_nm M' (r + 1) 6) M') : ∀ (m : Nat) (k : Int) (M' : qM), 0 ≤ k → k + m = w_nr W → fr (fun a j => ∃ rr, (0 ≤ rr ∧ rr < w_nr W) ∧ a = q_rf M 13 rr + 2 ∧ j = x) M9 M' → (∀ rr, 0 ≤ rr → rr < k → q_nm M' (q_rf M 13 rr + 2) x = 0) → q_At q_m138 (q_WP q_Pr d) P 61 [(0, .inr (.inr 0)), (1, .inl x), (2, .inr (.inr r)), (3, .inl k)] [] M' c s := by
  have g3 := g.2.2.1.1
  have t := w.2.2.1
  intro m
  induction m with
  | zero =>
    intro k M' k0 hkm f hj
    have n3 : q_nm M' 0 3 = w_nr W := by
      rw [f.2 _ _ ?_]
      · exact hn
      · rintro ⟨rr, q, e, _⟩
        have := q_ml_ge (t.2.1 rr q.1 q.2).1.1
        omega
    refine t_138_61 (fr_lay f hl9) ?_
    rw [n3, fr_kd f, fr_rf f, hk.1, hk.2.1, fr_kd f, hk.2.2]
    exact ⟨fun _ => ⟨rfl, rfl, K M' f (fun rr a b => hj rr a (by omega))⟩, fun z => absurd z (by omega)⟩
  | succ m ih =>
    intro k M' k0 hkm f hj
    have n3 : q_nm M' 0 3 = w_nr W := by
      rw [f.2 _ _ ?_]
      · exact hn
      · rintro ⟨rr, q, e, _⟩
        have := q_ml_ge (t.2.1 rr q.1 q.2).1.1
        omega
    have row := t.2.1 k k0 (by omega)
    have ml := row.1.1
    have ge := q_ml_ge ml
    have tp := row.2.1
    have top := ml.1.1
    have m1 := ml.2.2.1
    have m12 := ml.2.2.2.2.1
    have e13 : q_rf M' 13 k = q_rf M 13 k := (fr_rf f _ _).trans ((h9 13 (by omega)).2.2 k (by decide))
    have e1 : q_kd M' (q_rf M 13 k) = 1 := (fr_kd f _).trans ((h9 _ (by omega)).1.trans m1.1)
    have e12 : q_rf M' (q_rf M 13 k) 12 = q_rf M 13 k + 2 := (fr_rf f _ _).trans (((h9 _ (by omega)).2.2 12 (by omega)).trans m12.1)
    have e16 : q_kd M' (q_rf M 13 k + 2) = 16 := (fr_kd f _).trans ((h9 _ (by omega)).1.trans m12.2.1)
    have e5 : q_ln M' (q_rf M 13 k + 2) = 5 := (fr_ln f _).trans ((h9 _ (by omega)).2.1.trans m12.2.2)
    refine t_138_61 (fr_lay f hl9) ?_
    rw [n3, e13, e1, e12, e16, e5, q_bs16_0, w32_id (x := k + 1) (by omega) (by omega)]
    refine ⟨fun z => absurd z (by omega), fun _ => ⟨⟨by omega, by omega⟩, fun z => absurd z (by omega), fun _ => ⟨⟨by omega, by omega⟩, rfl, ⟨Or.inr rfl, by omega, by omega⟩, fun M1 e' l1 => ?_⟩⟩⟩
    refine ih (k + 1) M1 (by omega) (by omega) (fr_trans f (fr_wn e' ⟨k, ⟨k0, by omega⟩, rfl, rfl⟩)) (fun rr a b => ?_)
    by_cases e : rr = k
    · rw [e, wn_eq e']
    · by_cases z : q_rf M 13 rr + 2 = q_rf M 13 k + 2
      · rw [z, wn_eq e']
      · rw [wn_ne e' (fun y => z y.1)]; exact hj rr a (by omega)
theorem c_138 {d : Nat} {P : Int → qM → Prop} {W : qW} {x : Int} {M : qM} (hl : q_lay M) (g : WG W) (w : WC W M) (hx : 0 ≤ x ∧ x < 5) (K : ∀ M', kR M M' → WC (nwK W x (rdA (w_tp W))) M' → P (ansA (rdA (w_tp W))) M') : q_WP q_Pr (d + 31) 138 [.inr (.inr 0), .inl x] M P := by
  have gt := g.1
  have top := hl.1
  refine q_enter (t_138_0 hl ?_)
  obtain ⟨r, er⟩ : ∃ r, r = q_top M := ⟨_, rfl⟩
  rw [← er]
  intro N1
  obtain ⟨M1, e1⟩ : ∃ x, x = N1 := ⟨_, rfl⟩
  rw [← e1]
  have G0 : gw r r [] [] [] M M := by rw [er]; exact gw0
  have G1 : gw r (r + 1) [(r, 4, 6)] [] [(r, 1, 0), (r, 4, 0)] M M1 := gw_al (k := 4) (n := 6) [1, 4] G0 e1 rfl
  rw [(G1.2.1 0 (by omega)).1, lk0 hl, (gw_k (a := r) (k := 4) (n := 6) G1 (by simp)).1, (G1.2.1 0 (by omega)).2.2.2 0, lr0_0 hl]
  refine ⟨⟨by decide, by decide⟩, rfl, rfl, ⟨by decide, by decide⟩, ?_⟩
  refine c_40 (d := d + 27) hl (by omega) gt.1 w.1.1 G1 (fun M3 t3 lo3 rl3 a1 a2 a4 b1 b6 => ?_)
  have l3 := rl3.2.2.2.1
  refine ⟨l3, rl3.2.1.1, ?_⟩
  have hT3 : C_T (w_tp W) M3 := C_T_fr w.1 (fun j => ⟨(lo3 1 (by omega)).2.2.1 _, (lo3 2 (by omega)).2.2.1 _⟩)
  -- what stands below, behind the reading and the three writes
  have low : ∀ (M5 M6 M7 M8 : qM) (v7 v8 : Int), fr (Z41 r) M3 M5 → M6 = q_wn M5 1 1 0 → M7 = q_wn M6 0 7 v7 → M8 = q_wn M7 0 8 v8 → (fr (fun a j => (a = 1 ∧ j = 1) ∨ (a = 0 ∧ (j = 7 ∨ j = 8))) M5 M8 ∧ q_top M8 = r + 10 ∧ q_nm M8 1 1 = 0 ∧ q_nm M8 0 7 = v7 ∧ q_nm M8 0 8 = v8 ∧ ∀ a, a < r → (q_kd M8 a = q_kd M a ∧ q_ln M8 a = q_ln M a ∧ (∀ j, ¬ ((a = 1 ∧ j = 1) ∨ (a = 0 ∧ (j = 7 ∨ j = 8))) → q_nm M8 a j = q_nm M a j) ∧ ∀ j, q_rf M8 a j = q_rf M a j)) := fun M5 M6 M7 M8 v7 v8 f5 e6 e7 e8 => by
    have f8 : fr (fun a j => (a = 1 ∧ j = 1) ∨ (a = 0 ∧ (j = 7 ∨ j = 8))) M5 M8 := fr_trans (fr_wn e6 (by omega)) (fr_trans (fr_wn e7 (by omega)) (fr_wn e8 (by omega)))
    refine ⟨f8, by rw [fr_top f8, fr_top f5]; exact t3, by rw [wn_ne e8 (by omega), wn_ne e7 (by omega), wn_eq e6], by rw [wn_ne e8 (by omega), wn_eq e7], wn_eq e8, fun a ha => ?_⟩
    have p := lo3 a ha
    exact ⟨(fr_kd f8 _).trans ((fr_kd f5 _).trans p.1), (fr_ln f8 _).trans ((fr_ln f5 _).trans p.2.1), fun j q => (f8.2 _ _ q).trans ((f5.2 _ _ (by unfold Z41; omega)).trans (p.2.2.1 j)), fun j => (fr_rf f8 _ _).trans ((fr_rf f5 _ _).trans (p.2.2.2 j))⟩
  refine C_41 (d := d) gt rl3 hT3 a1 a2 a4 b1 b6 (fun sc es M5 f5 c1 c2 csc => ?_) (fun k q es M5 f5 c1 c2 kn => ?_)
  · -- the text is good
    have l5 := fr_lay f5 l3
    refine ⟨l5, fun M6 e6 l6 => ?_⟩
    have v1 : q_nm M6 r 1 = 0 := by rw [wn_ne e6 (by omega)]; exact c1
    have v2 : q_nm M6 r 2 = -1 := by rw [wn_ne e6 (by omega)]; exact c2
    have k6 : q_kd M6 r = 4 := by rw [e6]; exact (rd_fr rl3 f5).2.1.1
    refine ⟨k6, fun M7 e7 l7 => ?_⟩
    rw [v1] at e7
    have v2' : q_nm M7 r 2 = -1 := by rw [wn_ne e7 (by omega)]; exact v2
    refine ⟨by rw [e7]; exact k6, fun M8 e8 l8 => ?_⟩
    rw [v2'] at e8
    obtain ⟨f8, t8, n11, n7, n8, lo8⟩ := low M5 M6 M7 M8 0 (-1) f5 e6 e7 e8
    have rl5 := rd_fr rl3 f5
    have rl8 := rd_fr rl5 f8
    have k5 : q_kd M8 (r + 1) = 5 := rl8.2.2.1.1.2.1
    refine ⟨fun _ => ⟨rl8.2.1.1, ?_⟩, fun z => absurd n7 z⟩
    rw [rl8.2.1.2.1, k5]
    refine ⟨⟨rfl, hx.1, hx.2⟩, ?_⟩
    intro N9
    obtain ⟨M9, e9⟩ : ∃ x, x = N9 := ⟨_, rfl⟩
    rw [← e9]
    replace e9 : M9 = q_wr M8 14 x (r + 1) := e9
    have rf9 : ∀ a j, ¬ (a = 14 ∧ j = x) → q_rf M9 a j = q_rf M8 a j := fun a j z => by rw [e9]; show (if a = 14 ∧ j = x then r + 1 else M8.2.2.1 a j) = _; rw [if_neg z]; rfl
    have rf9' : q_rf M9 14 x = r + 1 := by rw [e9]; show (if (14 : Int) = 14 ∧ x = x then r + 1 else M8.2.2.1 14 x) = _; rw [if_pos ⟨rfl, rfl⟩]
    have kd9 : ∀ a, q_kd M9 a = q_kd M8 a := fun a => by rw [e9]; rfl
    have ln9 : ∀ a, q_ln M9 a = q_ln M8 a := fun a => by rw [e9]; rfl
    have nm9 : ∀ a j, q_nm M9 a j = q_nm M8 a j := fun a j => by rw [e9]; rfl
    have top9 : q_top M9 = r + 10 := by rw [e9]; exact t8
    have l9 : q_lay M9 := by
      refine ⟨by rw [top9]; omega, fun e he => ?_, fun e he => ?_⟩
      · rw [kd9, ln9]; exact l8.2.1 e he
      · have q := List.all_eq_true.mp sR_lt14 e he
        rw [Bool.and_eq_true, decide_eq_true_eq, decide_eq_true_eq] at q
        rw [rf9 _ _ (fun z => q.2 z.1)]; exact l8.2.2 e he
    have n03 : q_nm M9 0 3 = w_nr W := by rw [nm9]; exact ((lo8 0 (by omega)).2.2.1 3 (by omega)).trans w.2.2.1.1
    refine c_138l (d := d + 30) g w hx er (fun a ha => ⟨(kd9 a).trans (lo8 a ha).1, (ln9 a).trans (lo8 a ha).2.1, fun j z => (rf9 a j (fun y => z y.1)).trans ((lo8 a ha).2.2.2 j)⟩) n03 l9 ⟨(kd9 r).trans rl8.2.1.1, (rf9 r 0 (by omega)).trans rl8.2.1.2.1, (kd9 _).trans k5⟩ (fun M' f' h' => ?_) (w_nr W).toNat 0 M9 (by omega) (by have := g.2.2.1.1.1; omega) fr_rfl (fun rr a b => absurd (Int.lt_of_le_of_lt a b) (by decide))
    have cell : ∀ a j, r ≤ a → ¬ ∃ rr, (0 ≤ rr ∧ rr < w_nr W) ∧ a = q_rf M 13 rr + 2 ∧ j = x := fun a j ha => by
      rintro ⟨rr, q, e, _⟩
      have := (w.2.2.1.2.1 rr q.1 q.2).2.1
      omega
    have csc' : C_sc M' (r + 1) sc := C_sc_k csc (fun a u v => ⟨(fr_kd f' _).trans ((kd9 a).trans (fr_kd f8 _)), (fr_ln f' _).trans ((ln9 a).trans (fr_ln f8 _)), fun j => (f'.2 _ _ (cell a j (by omega))).trans ((nm9 a j).trans (f8.2 _ _ (by omega))), fun j => (fr_rf f' _ _).trans ((rf9 a j (by omega)).trans (fr_rf f8 _ _))⟩)
    have gyy : gy W x M M' := by
      refine ⟨by rw [fr_top f', top9]; omega, fun a ha => ?_⟩
      rw [← er] at ha
      have p := lo8 a ha
      refine ⟨(fr_kd f' _).trans ((kd9 a).trans p.1), (fr_ln f' _).trans ((ln9 a).trans p.2.1), fun j z => ?_, fun j z => (fr_rf f' _ _).trans ((rf9 a j z).trans (p.2.2.2 j))⟩
      refine (f'.2 _ _ (fun q => z (Or.inr (Or.inr q)))).trans ((nm9 a j).trans (p.2.2.1 j (fun q => z ?_)))
      rcases q with q | q
      · exact Or.inr (Or.inl q)
      · exact Or.inl q
    have lo9 : ∀ a j, a < 126 → q_nm M' a j = q_nm M8 a j := fun a j ha => (f'.2 _ _ (by
      rintro ⟨rr, q, e, _⟩
      have := q_ml_ge (w.2.2.1.2.1 rr q.1 q.2).1.1
      omega)).trans (nm9 a j)
    have rx : q_rf M' 14 x = r + 1 := (fr_rf f' _ _).trans rf9'
    have hG : G_sc sc := gAll_G (fun i => by rcases yT_all (tp := w_tp W) i with q | q | q | q | q <;> first | omega | (unfold ySg at q; omega)) es
    rw [es] at K
    rw [csc'.2.1]
    refine K M' (gy_kR hl w gyy) ?_
    show WC (w_setK W (fun y => if y = x then some sc else w_SO W y) 0 (-1)) M'
    refine WC_gy (sl := x) hl g w gyy (fun y _ _ e => if_neg e) (fun _ _ => ⟨h', ?_, fun _ => ?_⟩) ((lo9 1 1 (by omega)).trans n11) ((lo9 0 7 (by omega)).trans n7) ((lo9 0 8 (by omega)).trans n8)
    · rw [if_pos rfl, rx]; exact ⟨csc', hG⟩
    · rw [rx, fr_top f', top9]; omega
  · -- the text is bad
    have l5 := fr_lay f5 l3
    refine ⟨l5, fun M6 e6 l6 => ?_⟩
    have v1 : q_nm M6 r 1 = k := by rw [wn_ne e6 (by omega)]; exact c1
    have v2 : q_nm M6 r 2 = yP (w_tp W) q := by rw [wn_ne e6 (by omega)]; exact c2
    have k6 : q_kd M6 r = 4 := by rw [e6]; exact (rd_fr rl3 f5).2.1.1
    refine ⟨k6, fun M7 e7 l7 => ?_⟩
    rw [v1] at e7
    have v2' : q_nm M7 r 2 = yP (w_tp W) q := by rw [wn_ne e7 (by omega)]; exact v2
    refine ⟨by rw [e7]; exact k6, fun M8 e8 l8 => ?_⟩
    rw [v2'] at e8
    obtain ⟨f8, t8, n11, n7, n8, lo8⟩ := low M5 M6 M7 M8 k (yP (w_tp W) q) f5 e6 e7 e8
    refine ⟨fun z => absurd (n7.symm.trans z) kn, fun _ => ?_⟩
    have gyy : gy W (-5) M M8 := by
      refine ⟨by rw [t8]; omega, fun a ha => ?_⟩
      rw [← er] at ha
      have p := lo8 a ha
      refine ⟨p.1, p.2.1, fun j z => p.2.2.1 j (fun y => z ?_), fun j _ => p.2.2.2 j⟩
      rcases y with y | y
      · exact Or.inr (Or.inl y)
      · exact Or.inl y
    rw [es] at K
    refine K M8 (gy_kR hl w gyy) ?_
    show WC (w_setK W (w_SO W) k (yP (w_tp W) q)) M8
    exact WC_gy (sl := -5) hl g w gyy (fun y _ _ _ => rfl) (fun z => absurd z (by decide)) n11 n7 n8
end
section
/-- making and ear -/
theorem WG_nw {W : qW} {x : Int} {r : List qS ⊕ (Int × Nat)} (g : WG W) : WG (nwK W x r) := by
  cases r with
  | inl sc => exact WG_K g
  | inr f => exact WG_K g
theorem ok_ear' {L : Nat} {X : Int → Int} {D : Nat} : q_ok L X (INV L X) (D + 60) 103 186 [] :=
  q_okQL (fun W => ansA (rdA (w_tp W))) (fun W => nwK W 4 (rdA (w_tp W))) (fun W g => WG_nw g)
    (fun W M hl g h => q_enter (t_103_0 hl ⟨⟨by decide, by decide⟩, c_138 (d := D + 28) hl g h (by decide) (fun M' k c => ⟨k.2, rfl, k, c⟩)⟩))
    (fun W M hl g h t => q_enter (t_186_0 hl (r_184 (d := D + 49) hl g h t (by decide) (fun M' f l c => ⟨l, rfl, f, c⟩))))
theorem ok_making' {L : Nat} {X : Int → Int} {D : Nat} : ∀ a : Int, q_i32 a → q_ok L X (INV L X) (D + 60) 102 185 [.inl a] := fun a _ => by
  refine q_okQL (fun W => if 0 ≤ a ∧ a ≤ 3 then ansA (rdA (w_tp W)) else -2) (fun W => if 0 ≤ a ∧ a ≤ 3 then nwK W a (rdA (w_tp W)) else w_setT W []) (fun W g => ?_) (fun W M hl g h => q_enter (t_102_0 hl ?_)) (fun W M hl g h t => q_enter (t_185_0 hl ?_))
  · split
    · exact WG_nw g
    · exact ⟨G_T_nil, g.2⟩
  · have no : ¬ (0 ≤ a ∧ a ≤ 3) → ∀ M1 : qM, M1 = q_wn M 1 1 0 → q_lay M1 → ((-2 : Int) = (if 0 ≤ a ∧ a ≤ 3 then ansA (rdA (w_tp W)) else -2) ∧ kR M M1 ∧ WC (if 0 ≤ a ∧ a ≤ 3 then nwK W a (rdA (w_tp W)) else w_setT W []) M1) := fun n M1 e1 l1 => by
      rw [if_neg n, if_neg n]
      have f1 : fr (fun a j => a = 1 ∧ j = 1) M M1 := fr_wn e1 ⟨rfl, rfl⟩
      exact ⟨rfl, kR_fr hl (fr_mono f1 (fun a j q => by unfold Zc; omega)), WC_T g h f1 (fun a j q => Or.inl q.1) ⟨wn_eq e1, fun i hi => absurd hi (Nat.not_lt_zero i)⟩⟩
    refine ⟨fun z => no (by omega), fun z => ⟨fun y => ⟨⟨by decide, by decide⟩, ?_⟩, fun y => no (by omega)⟩⟩
    rw [if_pos ⟨z, by omega⟩, if_pos ⟨z, by omega⟩]
    exact c_138 (d := D + 28) hl g h ⟨z, by omega⟩ (fun M' k c => ⟨k.2, rfl, k, c⟩)
  · refine ⟨fun z => ?_, fun n M1 e1 l1 => ?_⟩
    · rw [if_pos z, if_pos z]
      exact r_184 (d := D + 49) hl g h t ⟨z.1, by omega⟩ (fun M' f l c => ⟨l, rfl, f, c⟩)
    · rw [if_neg n, if_neg n]
      have f1 : fr (fun a j => a = 66 ∧ j = 1) M M1 := fr_wn e1 ⟨rfl, rfl⟩
      exact ⟨rfl, fr_mono f1 (fun a j q => by unfold Zr; omega), WR_T h f1 (fun a j q => Or.inl q) ⟨wn_eq e1, q_L_nil⟩⟩
end
