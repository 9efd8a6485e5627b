section
theorem gy_row {W W' : qW} {sl r : Int} {M M' : qM} (hl : q_lay M) (w : WC W M) (h : gy W sl M M') (hr : 0 ≤ r ∧ r < w_nr W) (e1 : W'.2.1 = W.2.1) (e2 : ∀ k, 0 ≤ k → k < 5 → k ≠ sl → w_SO W' k = w_SO W k) (hc : 0 ≤ sl → sl < 5 → q_nm M' (q_rf M 13 r + 2) sl = 0) : C_row W' M' (q_rf M 13 r) (w_RL W r) := by
  obtain ⟨h1, h2, h3, h4⟩ := w.2.2.1.2.1 r hr.1 hr.2
  have ge := q_ml_ge h1.1
  have k : ∀ a j, q_rf M 13 r ≤ a → a ≤ q_rf M 13 r + 23 → ¬ (a = q_rf M 13 r + 2 ∧ j = sl) → q_nm M' a j = q_nm M a j := fun a j x y z => (h.2 a (by omega)).2.2.1 j (fun q => by
    rcases q with q | q | ⟨r', q, u, v⟩
    · omega
    · omega
    · have ge' := q_ml_ge (w.2.2.1.2.1 r' q.1 q.2).1.1
      rcases Int.lt_trichotomy r r' with t | t | t
      · have := w.2.2.1.2.2.1 r r' hr.1 t q.2; omega
      · rw [← t] at u; exact z ⟨u, v⟩
      · have := w.2.2.1.2.2.1 r' r q.1 t hr.2; omega)
  have n1 : w_nw W' = w_nw W := by show W'.2.1.1 = W.2.1.1; rw [e1]
  have n2 : w_WL W' = w_WL W := by show W'.2.1.2.1 = W.2.1.2.1; rw [e1]
  have n3 : w_WS W' = w_WS W := by show W'.2.1.2.2.1 = W.2.1.2.2.1; rw [e1]
  have n4 : w_WE W' = w_WE W := by show W'.2.1.2.2.2.1 = W.2.1.2.2.2.1; rw [e1]
  have n5 : w_WO W' = w_WO W := by show W'.2.1.2.2.2.2 = W.2.1.2.2.2.2; rw [e1]
  unfold C_row
  rw [n1, n2, n3, n4, n5]
  refine ⟨⟨gy_ml hl h h1.1 h2, q_L_fr h1.2 (fun j _ _ => k _ _ (by omega) (by omega) (by omega))⟩, by have := h.1; omega, ?_, fun e => ?_⟩
  · rw [k _ _ (by omega) (by omega) (by omega)]; exact h3
  · rw [k _ _ (by omega) (by omega) (by omega)] at e
    obtain ⟨⟨t1, t2, t3⟩, q4⟩ := h4 e
    refine ⟨⟨⟨(k _ _ (by omega) (by omega) (by omega)).trans t1.1, fun i hi => ⟨(k _ _ (by omega) (by omega) (by omega)).trans (t1.2 i hi).1, (k _ _ (by omega) (by omega) (by omega)).trans (t1.2 i hi).2.1, (k _ _ (by omega) (by omega) (by omega)).trans (t1.2 i hi).2.2⟩⟩, fun i hi => C_de_fr (t2 i hi) (fun a _ _ => k _ _ (by omega) (by omega) (by omega)), fun j hj => ?_⟩, fun x a b c => ?_⟩
    · obtain ⟨l, a, b⟩ := t3 j hj
      exact ⟨l, a, (k _ _ (by omega) (by omega) (by omega)).trans b⟩
    · have xs : x ≠ sl := fun q => by rw [q] at a b c; exact c (hc a b)
      rw [e2 x a b xs]
      rw [k _ _ (by omega) (by omega) (by omega)] at c
      have q := q4 x a b c
      exact ⟨fun i hi => (k _ _ (by omega) (by omega) (by omega)).trans (q.1 i hi), (k _ _ (by omega) (by omega) (by omega)).trans q.2.1, fun i hi hh => (k _ _ (by omega) (by omega) (by omega)).trans (q.2.2 i hi hh)⟩
theorem gy_sc {W : qW} {sl : Int} {M M' : qM} {b : Int} {sc : List qS} (h : gy W sl M M') (q : C_sc M b sc) (ht : b + 6 ≤ q_top M) (hs : ∀ a j, b ≤ a → a ≤ b + 5 → ¬ gyE W M sl a j) : C_sc M' b sc := by
  have ge := q.1.1
  have p : ∀ a, b ≤ a → a ≤ b + 5 → (q_kd M' a = q_kd M a ∧ q_ln M' a = q_ln M a ∧ (∀ j, q_nm M' a j = q_nm M a j) ∧ ∀ j, q_rf M' a j = q_rf M a j) := fun a x y => by
    have z := h.2 a (by omega)
    exact ⟨z.1, z.2.1, fun j => z.2.2.1 j (hs a j x y), fun j => z.2.2.2 j (by omega)⟩
  have p0 := p b (by omega) (by omega)
  refine ⟨?_, (p0.2.2.1 _).trans q.2.1, fun i hi => ?_⟩
  · obtain ⟨s0, s1, s2, s3, s4, s5, s6⟩ := q.1
    exact ⟨s0, p0.1.trans s1, ⟨(p0.2.2.2 _).trans s2.1, (p _ (by omega) (by omega)).1.trans s2.2.1, (p _ (by omega) (by omega)).2.1.trans s2.2.2⟩, ⟨(p0.2.2.2 _).trans s3.1, (p _ (by omega) (by omega)).1.trans s3.2.1, (p _ (by omega) (by omega)).2.1.trans s3.2.2⟩, ⟨(p0.2.2.2 _).trans s4.1, (p _ (by omega) (by omega)).1.trans s4.2.1, (p _ (by omega) (by omega)).2.1.trans s4.2.2⟩, ⟨(p0.2.2.2 _).trans s5.1, (p _ (by omega) (by omega)).1.trans s5.2.1, (p _ (by omega) (by omega)).2.1.trans s5.2.2⟩, ⟨(p0.2.2.2 _).trans s6.1, (p _ (by omega) (by omega)).1.trans s6.2.1, by rw [(p _ (by omega) (by omega)).2.1]; exact s6.2.2⟩⟩
  · obtain ⟨h1, g, h2, h3, h4, h5, h6, h7, h8⟩ := q.2.2 i hi
    refine ⟨((p _ (by omega) (by omega)).2.2.1 _).trans h1, g, h2, ((p _ (by omega) (by omega)).2.2.1 _).trans h3, ((p _ (by omega) (by omega)).2.2.1 _).trans h4, ((p _ (by omega) (by omega)).2.2.1 _).trans h5, by rw [(p _ (by omega) (by omega)).2.1]; exact h6, q_L_fr h7 (fun j _ _ => (p _ (by omega) (by omega)).2.2.1 _), q_L_fr h8 (fun j _ _ => (p _ (by omega) (by omega)).2.2.1 _)⟩
/-- the world with no tape, another fault, other scripts -/
abbrev w_setK (W : qW) (SO : Int → Option (List qS)) (fk fp : Int) : qW := ([], W.2.1, W.2.2.1, SO, (fk, fp), W.2.2.2.2.2)
theorem WC_gy {W : qW} {sl fk fp : Int} {M M' : qM} {SO : Int → Option (List qS)} (hl : q_lay M) (g : WG W) (w : WC W M) (h : gy W sl M M') (e2 : ∀ k, 0 ≤ k → k < 5 → k ≠ sl → SO k = w_SO W k) (hc : 0 ≤ sl → sl < 5 → ((∀ r, 0 ≤ r → r < w_nr W → q_nm M' (q_rf M 13 r + 2) sl = 0) ∧ C_so M' (q_rf M' 14 sl) (SO sl) ∧ (SO sl ≠ none → (q_top M ≤ q_rf M' 14 sl ∧ q_rf M' 14 sl + 6 ≤ q_top M')))) (h1 : q_nm M' 1 1 = 0) (h7 : q_nm M' 0 7 = fk) (h8 : q_nm M' 0 8 = fp) : WC (w_setK W SO fk fp) M' := by
  have t := hl.1
  have k : ∀ a j, a < 126 → ¬ (a = 0 ∧ (j = 7 ∨ j = 8)) → ¬ (a = 1 ∧ j = 1) → q_nm M' a j = q_nm M a j := fun a j x y z => (h.2 a (by omega)).2.2.1 j (gyE_lo w x y z)
  have k13 : ∀ j, q_rf M' 13 j = q_rf M 13 j := fun j => (h.2 13 (by omega)).2.2.2 j (by omega)
  have k14 : ∀ j, j ≠ sl → q_rf M' 14 j = q_rf M 14 j := fun j hj => (h.2 14 (by omega)).2.2.2 j (fun q => hj q.2)
  refine ⟨⟨h1, fun i hi => absurd hi (Nat.not_lt_zero i)⟩, C_W_fr w.2.1 (fun a j _ _ => k _ _ (by omega) (by omega) (by omega)), ⟨(k _ _ (by omega) (by omega) (by omega)).trans w.2.2.1.1, fun r a b => ?_, fun r r' a b c => ?_, fun r x a b c d => ?_⟩, fun x a b => ?_, ⟨h7, h8⟩, C_Sp_fr w.2.2.2.2.2.1 (k _ _ (by omega) (by omega) (by omega)) (fun j => k _ _ (by omega) (by omega) (by omega)), C_N_fr g.2.2.2.2.1.1.2 w.2.2.2.2.2.2.1 (fun a j _ _ => k _ _ (by omega) (by omega) (by omega)), C_P_fr w.2.2.2.2.2.2.2 (k _ _ (by omega) (by omega) (by omega)) (fun j => k _ _ (by omega) (by omega) (by omega))⟩
  · rw [k13]; exact gy_row (W := W) (W' := w_setK W SO fk fp) hl w h ⟨a, b⟩ rfl e2 (fun x y => (hc x y).1 r a b)
  · rw [k13, k13]; exact w.2.2.1.2.2.1 r r' a b c
  · rw [k13]
    show sepS (q_rf M 13 r) (q_rf M' 14 x) (SO x)
    by_cases e : x = sl
    · rw [e]
      rw [e] at c d
      by_cases z : SO sl = none
      · exact Or.inl z
      · have q := ((hc c d).2.2 z).1
        have o := (w.2.2.1.2.1 r a b).2.1
        exact Or.inr (Or.inr (by omega))
    · rw [k14 x e, e2 x c d e]; exact w.2.2.1.2.2.2 r x a b c d
  · show C_so M' (q_rf M' 14 x) (SO x) ∧ (SO x ≠ none → q_rf M' 14 x + 6 ≤ q_top M')
    by_cases e : x = sl
    · rw [e]
      rw [e] at a b
      exact ⟨(hc a b).2.1, fun z => ((hc a b).2.2 z).2⟩
    · have q := w.2.2.2.1 x a b
      rw [k14 x e, e2 x a b e]
      refine ⟨?_, fun z => by have := q.2 z; have := h.1; omega⟩
      cases eo : w_SO W x with
      | none => have q1 := q.1; rw [eo] at q1; exact q1
      | some sc =>
        have q1 := q.1
        rw [eo] at q1
        have lo := q1.1.1.1
        refine ⟨gy_sc h q1.1 (q.2 (by rw [eo]; simp)) (fun y j u v z => ?_), q1.2⟩
        rcases z with z | z | ⟨r, z, z2, _⟩
        · omega
        · omega
        · have s := (w.2.2.1.2.2.2 r x z.1 z.2 a b).resolve_left (by rw [eo]; simp)
          omega
end
