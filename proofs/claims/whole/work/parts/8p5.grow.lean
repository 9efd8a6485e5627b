section
/-- memory has grown; only the number of rows and one place for a row may differ -/
def gx (nr : Int) (M M' : qM) : Prop := q_top M ≤ q_top M' ∧ ∀ a, a < q_top M → (q_kd M' a = q_kd M a ∧ q_ln M' a = q_ln M a ∧ (∀ j, ¬ (a = 0 ∧ j = 3) → q_nm M' a j = q_nm M a j) ∧ ∀ j, ¬ (a = 13 ∧ j = nr) → q_rf M' a j = q_rf M a j)
set_option maxRecDepth 100000 in
theorem sK_lt : (q_sK.all fun e => decide (e.1 < 126)) = true := by decide +kernel
set_option maxRecDepth 100000 in
theorem sR_lt : (q_sR.all fun e => decide (e.1 < 126) && decide (e.1 ≠ 13)) = true := by decide +kernel
theorem gx_lay {nr : Int} {M M' : qM} (hl : q_lay M) (h : gx nr M M') : q_lay M' := by
  have t := hl.1
  refine ⟨by have := h.1; omega, fun e he => ?_, fun e he => ?_⟩
  · have q := List.all_eq_true.mp sK_lt e he
    rw [decide_eq_true_eq] at q
    have p := h.2 e.1 (by omega)
    have r := hl.2.1 e he
    exact ⟨p.1.trans r.1, p.2.1.trans r.2⟩
  · have q := List.all_eq_true.mp sR_lt e he
    rw [Bool.and_eq_true, decide_eq_true_eq, decide_eq_true_eq] at q
    have p := h.2 e.1 (by omega)
    exact (p.2.2.2 _ (fun z => q.2 z.1)).trans (hl.2.2 e he)
theorem gx_kR {nr : Int} {M M' : qM} (hl : q_lay M) (h : gx nr M M') : kR M M' := by
  have t := hl.1
  refine ⟨fun a ha => ?_, gx_lay hl h⟩
  have p := h.2 a (by omega)
  exact ⟨p.1, p.2.1, fun j => p.2.2.1 j (by omega)⟩
theorem gx_ml {nr : Int} {M M' : qM} {m n mo : Int} (hl : q_lay M) (h : gx nr M M') (hm : q_ml M m n mo) (ht : m + 24 ≤ q_top M) : q_ml M' m n mo := by
  have ge := hm.2.1
  have p : ∀ a, m ≤ a → a < m + 24 → (q_kd M' a = q_kd M a ∧ q_ln M' a = q_ln M a ∧ ∀ j, q_rf M' a j = q_rf M a j) := fun a x y => by
    have q := h.2 a (by omega)
    exact ⟨q.1, q.2.1, fun j => q.2.2.2 j (by omega)⟩
  obtain ⟨_, m0, m1, m2, m3, m4, m5, m6, m7, m8, m9, m10, m11, m12, m18, mw', ms'⟩ := hm
  refine ⟨gx_lay hl h, m0, ?_⟩
  have tr : ∀ (f a k l : Int), m ≤ a → a < m + 24 → (q_rf M m f = a ∧ q_kd M a = k ∧ q_ln M a = l) → (q_rf M' m f = a ∧ q_kd M' a = k ∧ q_ln M' a = l) := fun f a k l x y z => ⟨((p m (by omega) (by omega)).2.2 f).trans z.1, (p a x y).1.trans z.2.1, (p a x y).2.1.trans z.2.2⟩
  refine ⟨⟨(p m (by omega) (by omega)).1.trans m1.1, ((p m (by omega) (by omega)).2.2 0).trans m1.2⟩, tr _ _ _ _ (by omega) (by omega) m2, tr _ _ _ _ (by omega) (by omega) m3, tr _ _ _ _ (by omega) (by omega) m4, tr _ _ _ _ (by omega) (by omega) m5, tr _ _ _ _ (by omega) (by omega) m6, tr _ _ _ _ (by omega) (by omega) m7, tr _ _ _ _ (by omega) (by omega) m8, tr _ _ _ _ (by omega) (by omega) m9, tr _ _ _ _ (by omega) (by omega) m10, tr _ _ _ _ (by omega) (by omega) m11, tr _ _ _ _ (by omega) (by omega) m12, tr _ _ _ _ (by omega) (by omega) m18, tr _ _ _ _ (by omega) (by omega) mw', fun i a b => ?_, fun i a b => ?_⟩
  · have z := ms'.1 i a b
    exact ⟨((p (m + 12) (by omega) (by omega)).2.2 i).trans z.1, (p (m + 13 + i) (by omega) (by omega)).1.trans z.2.1, (p (m + 13 + i) (by omega) (by omega)).2.1.trans z.2.2⟩
  · have z := ms'.2 i a b
    exact ⟨((p (m + 18) (by omega) (by omega)).2.2 i).trans z.1, (p (m + 19 + i) (by omega) (by omega)).1.trans z.2.1, (p (m + 19 + i) (by omega) (by omega)).2.1.trans z.2.2⟩
theorem gx_row {W : qW} {nr : Int} {M M' : qM} {m : Int} {ln : List Int} (hl : q_lay M) (h : gx nr M M') (r : C_row W M m ln) : C_row W M' m ln := by
  obtain ⟨h1, h2, h3, h4⟩ := r
  have ge := q_ml_ge h1.1
  have k : ∀ a j, m ≤ a → a ≤ m + 23 → q_nm M' a j = q_nm M a j := fun a j x y => (h.2 a (by omega)).2.2.1 j (by omega)
  refine ⟨⟨gx_ml hl h h1.1 h2, q_L_fr h1.2 (fun j _ _ => k _ _ (by omega) (by omega))⟩, by have := h.1; omega, ?_, fun e => ?_⟩
  · rw [k _ _ (by omega) (by omega)]; exact h3
  · rw [k _ _ (by omega) (by omega)] at e
    refine ⟨C_rdy_fr (h4 e).1 k, fun j a b c => C_wt_fr ((h4 e).2 j a b ?_) ⟨a, b⟩ k⟩
    rw [k _ _ (by omega) (by omega)] at c; exact c
theorem gx_sc {nr : Int} {M M' : qM} {b : Int} {sc : List qS} (h : gx nr M M') (q : C_sc M b sc) (ht : b + 6 ≤ q_top M) : C_sc M' b sc := by
  have ge := q.1.1
  have p : ∀ a, b ≤ a → a ≤ b + 5 → (q_kd M' a = q_kd M a ∧ q_ln M' a = q_ln M a ∧ (∀ j, q_nm M' a j = q_nm M a j) ∧ ∀ j, q_rf M' a j = q_rf M a j) := fun a x y => by
    have z := h.2 a (by omega)
    exact ⟨z.1, z.2.1, fun j => z.2.2.1 j (by omega), fun j => z.2.2.2 j (by omega)⟩
  have p0 := p b (by omega) (by omega)
  refine ⟨?_, (p0.2.2.1 _).trans q.2.1, fun i hi => ?_⟩
  · obtain ⟨s0, s1, s2, s3, s4, s5, s6⟩ := q.1
    exact ⟨s0, p0.1.trans s1, ⟨(p0.2.2.2 _).trans s2.1, (p _ (by omega) (by omega)).1.trans s2.2.1, (p _ (by omega) (by omega)).2.1.trans s2.2.2⟩, ⟨(p0.2.2.2 _).trans s3.1, (p _ (by omega) (by omega)).1.trans s3.2.1, (p _ (by omega) (by omega)).2.1.trans s3.2.2⟩, ⟨(p0.2.2.2 _).trans s4.1, (p _ (by omega) (by omega)).1.trans s4.2.1, (p _ (by omega) (by omega)).2.1.trans s4.2.2⟩, ⟨(p0.2.2.2 _).trans s5.1, (p _ (by omega) (by omega)).1.trans s5.2.1, (p _ (by omega) (by omega)).2.1.trans s5.2.2⟩, ⟨(p0.2.2.2 _).trans s6.1, (p _ (by omega) (by omega)).1.trans s6.2.1, by rw [(p _ (by omega) (by omega)).2.1]; exact s6.2.2⟩⟩
  · obtain ⟨h1, g, h2, h3, h4, h5, h6, h7, h8⟩ := q.2.2 i hi
    refine ⟨((p _ (by omega) (by omega)).2.2.1 _).trans h1, g, h2, ((p _ (by omega) (by omega)).2.2.1 _).trans h3, ((p _ (by omega) (by omega)).2.2.1 _).trans h4, ((p _ (by omega) (by omega)).2.2.1 _).trans h5, by rw [(p _ (by omega) (by omega)).2.1]; exact h6, q_L_fr h7 (fun j _ _ => (p _ (by omega) (by omega)).2.2.1 _), q_L_fr h8 (fun j _ _ => (p _ (by omega) (by omega)).2.2.1 _)⟩
theorem WC_gx {W : qW} {nr : Int} {M M' : qM} (hl : q_lay M) (g : WG W) (w : WC W M) (h : gx nr M M') (hn : w_nr W ≤ nr) : C_T (w_tp W) M' ∧ C_W (w_nw W) (w_WL W) (w_WS W) (w_WE W) (w_WO W) M' ∧ (∀ r, 0 ≤ r → r < w_nr W → (q_rf M' 13 r = q_rf M 13 r ∧ C_row W M' (q_rf M 13 r) (w_RL W r))) ∧ (C_SS W M' ∧ ∀ k, q_rf M' 14 k = q_rf M 14 k) ∧ (q_nm M' 0 7 = w_fk W ∧ q_nm M' 0 8 = w_fp W) ∧ C_Sp 19 20 (w_sd W) M' ∧ C_N (w_nn W) (w_NR W) (w_NL W) M' ∧ C_P (w_pc W) M' := by
  have t := hl.1
  have k : ∀ a j, a < 126 → ¬ (a = 0 ∧ j = 3) → q_nm M' a j = q_nm M a j := fun a j x y => (h.2 a (by omega)).2.2.1 j y
  have k14 : ∀ j, q_rf M' 14 j = q_rf M 14 j := fun j => (h.2 14 (by omega)).2.2.2 j (by omega)
  obtain ⟨h1, h2, ⟨r1, r2, r3, r4⟩, h4, h5, h6, h7, h8⟩ := w
  refine ⟨C_T_fr h1 (fun j => ⟨k _ _ (by omega) (by omega), k _ _ (by omega) (by omega)⟩), C_W_fr h2 (fun a j _ _ => k _ _ (by omega) (by omega)), fun r a b => ⟨(h.2 13 (by omega)).2.2.2 r (by omega), gx_row hl h (r2 r a b)⟩, ⟨fun x a b => ?_, k14⟩, ⟨(k _ _ (by omega) (by omega)).trans h5.1, (k _ _ (by omega) (by omega)).trans h5.2⟩, C_Sp_fr h6 (k _ _ (by omega) (by omega)) (fun j => k _ _ (by omega) (by omega)), C_N_fr g.2.2.2.2.1.1.2 h7 (fun a j _ _ => k _ _ (by omega) (by omega)), C_P_fr h8 (k _ _ (by omega) (by omega)) (fun j => k _ _ (by omega) (by omega))⟩
  have q := h4 x a b
  rw [k14 x]
  refine ⟨?_, fun e => by have := q.2 e; have := h.1; omega⟩
  cases e : w_SO W x with
  | none => have q1 := q.1; rw [e] at q1; exact q1
  | some sc =>
    have q1 := q.1
    rw [e] at q1
    exact ⟨gx_sc h q1.1 (q.2 (by rw [e]; simp)), q1.2⟩
/-- only new cells: the world is as it was -/
theorem WC_gx0 {W : qW} {nr : Int} {M M' : qM} (hl : q_lay M) (g : WG W) (w : WC W M) (h : gx nr M M') (hn : w_nr W ≤ nr) (e3 : q_nm M' 0 3 = q_nm M 0 3) : WC W M' := by
  obtain ⟨p1, p2, p3, p4, p5, p6, p7, p8⟩ := WC_gx hl g w h hn
  refine ⟨p1, p2, ⟨e3.trans w.2.2.1.1, fun r a b => ?_, fun r r' a b c => ?_, fun r k a b c d => ?_⟩, p4.1, p5, p6, p7, p8⟩
  · rw [(p3 r a b).1]; exact (p3 r a b).2
  · rw [(p3 r a (by omega)).1, (p3 r' (by omega) c).1]; exact w.2.2.1.2.2.1 r r' a b c
  · rw [(p3 r a b).1, p4.2 k]; exact w.2.2.1.2.2.2 r k a b c d
/-- a row has come -/
theorem WC_gxA {W : qW} {M M' : qM} {ln : List Int} {m : Int} (hl : q_lay M) (g : WG W) (w : WC W M) (h : gx (w_nr W) M M') (e3 : q_nm M' 0 3 = w_nr W + 1) (er : q_rf M' 13 (w_nr W) = m) (hm : q_top M ≤ m) (hc : C_M M' m ln) (ht : m + 24 ≤ q_top M') (h2 : q_nm M' m 2 = 0) (hw : 0 < w_nw W) : WC (w_addR W ln) M' := by
  obtain ⟨p1, p2, p3, p4, p5, p6, p7, p8⟩ := WC_gx hl g w h (Int.le_refl _)
  have g3 := g.2.2.1.1
  have old : ∀ r, 0 ≤ r → r < w_nr W → q_rf M 13 r + 24 ≤ q_top M := fun r a b => (w.2.2.1.2.1 r a b).2.1
  refine ⟨p1, p2, ⟨e3, fun r a b => ?_, fun r r' a b c => ?_, fun r k a b c d => ?_⟩, p4.1, p5, p6, p7, p8⟩
  · have b' : r < w_nr W + 1 := b
    by_cases e : r = w_nr W
    · rw [e, addR_new, er]
      exact ⟨hc, ht, by rw [h2]; exact ⟨Int.le_refl 0, by show 0 ≤ w_nw W; omega⟩, fun q => by rw [h2] at q; have q' : 0 = w_nw W := q; omega⟩
    · rw [addR_RL (by omega), (p3 r a (by omega)).1]; exact (p3 r a (by omega)).2
  · have c' : r' < w_nr W + 1 := c
    rw [(p3 r a (by omega)).1]
    by_cases e : r' = w_nr W
    · rw [e, er]; have := old r a (by omega); omega
    · rw [(p3 r' (by omega) (by omega)).1]; exact w.2.2.1.2.2.1 r r' a b (by omega)
  · have b' : r < w_nr W + 1 := b
    rw [p4.2 k]
    by_cases e : r = w_nr W
    · rw [e, er]
      show sepS m (q_rf M 14 k) (w_SO W k)
      by_cases z : w_SO W k = none
      · exact Or.inl z
      · exact Or.inr (Or.inl (by have := (w.2.2.2.1 k c d).2 z; omega))
    · rw [(p3 r a (by omega)).1]; exact w.2.2.1.2.2.2 r k a (by omega) c d
end
