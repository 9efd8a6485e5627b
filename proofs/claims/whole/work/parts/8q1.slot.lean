section
/-! A SCRIPT COMES: cells grow; tape, fault, one slot, and the row's own marks for that slot may differ -/
def gyE (W : qW) (M : qM) (sl : Int) (a j : Int) : Prop := (a = 0 ∧ (j = 7 ∨ j = 8)) ∨ (a = 1 ∧ j = 1) ∨ ∃ r, (0 ≤ r ∧ r < w_nr W) ∧ a = q_rf M 13 r + 2 ∧ j = sl
def gy (W : qW) (sl : Int) (M M' : qM) : Prop := q_top M ≤ q_top M' ∧ ∀ a, a < q_top M → (q_kd M' a = q_kd M a ∧ q_ln M' a = q_ln M a ∧ (∀ j, ¬ gyE W M sl a j → q_nm M' a j = q_nm M a j) ∧ ∀ j, ¬ (a = 14 ∧ j = sl) → q_rf M' a j = q_rf M a j)
set_option maxRecDepth 100000 in
theorem sR_lt14 : (q_sR.all fun e => decide (e.1 < 126) && decide (e.1 ≠ 14)) = true := by decide +kernel
theorem gy_lay {W : qW} {sl : Int} {M M' : qM} (hl : q_lay M) (h : gy W sl M M') : q_lay M' := by
  have t := hl.1
  refine ⟨by have := h.1; omega, fun e he => ?_, fun e he => ?_⟩
  · have q := List.all_eq_true.mp sK_lt e he
    rw [decide_eq_true_eq] at q
    have p := h.2 e.1 (by omega)
    have r := hl.2.1 e he
    exact ⟨p.1.trans r.1, p.2.1.trans r.2⟩
  · have q := List.all_eq_true.mp sR_lt14 e he
    rw [Bool.and_eq_true, decide_eq_true_eq, decide_eq_true_eq] at q
    have p := h.2 e.1 (by omega)
    exact (p.2.2.2 _ (fun z => q.2 z.1)).trans (hl.2.2 e he)
theorem gyE_lo {W : qW} {sl : Int} {M : qM} (w : WC W M) {a j : Int} (ha : a < 126) (h1 : ¬ (a = 0 ∧ (j = 7 ∨ j = 8))) (h2 : ¬ (a = 1 ∧ j = 1)) : ¬ gyE W M sl a j := by
  rintro (q | q | ⟨r, q, e, _⟩)
  · exact h1 q
  · exact h2 q
  · have ge := q_ml_ge (w.2.2.1.2.1 r q.1 q.2).1.1
    omega
theorem gy_kR {W : qW} {sl : Int} {M M' : qM} (hl : q_lay M) (w : WC W M) (h : gy W sl M M') : kR M M' := by
  have t := hl.1
  refine ⟨fun a ha => ?_, gy_lay hl h⟩
  have p := h.2 a (by omega)
  exact ⟨p.1, p.2.1, fun j => p.2.2.1 j (gyE_lo w (by omega) (by omega) (by omega))⟩
theorem gy_ml {W : qW} {sl : Int} {M M' : qM} {m n mo : Int} (hl : q_lay M) (h : gy W sl M M') (hm : q_ml M m n mo) (ht : m + 24 ≤ q_top M) : q_ml M' m n mo := by
  have ge := hm.2.1
  have p : ∀ a, m ≤ a → a < m + 24 → (q_kd M' a = q_kd M a ∧ q_ln M' a = q_ln M a ∧ ∀ j, q_rf M' a j = q_rf M a j) := fun a x y => by
    have q := h.2 a (by omega)
    exact ⟨q.1, q.2.1, fun j => q.2.2.2 j (by omega)⟩
  obtain ⟨_, m0, m1, m2, m3, m4, m5, m6, m7, m8, m9, m10, m11, m12, m18, mw', ms'⟩ := hm
  have tr : ∀ (f a k l : Int), m ≤ a → a < m + 24 → (q_rf M m f = a ∧ q_kd M a = k ∧ q_ln M a = l) → (q_rf M' m f = a ∧ q_kd M' a = k ∧ q_ln M' a = l) := fun f a k l x y z => ⟨((p m (by omega) (by omega)).2.2 f).trans z.1, (p a x y).1.trans z.2.1, (p a x y).2.1.trans z.2.2⟩
  refine ⟨gy_lay hl h, m0, ⟨(p m (by omega) (by omega)).1.trans m1.1, ((p m (by omega) (by omega)).2.2 0).trans m1.2⟩, tr _ _ _ _ (by omega) (by omega) m2, tr _ _ _ _ (by omega) (by omega) m3, tr _ _ _ _ (by omega) (by omega) m4, tr _ _ _ _ (by omega) (by omega) m5, tr _ _ _ _ (by omega) (by omega) m6, tr _ _ _ _ (by omega) (by omega) m7, tr _ _ _ _ (by omega) (by omega) m8, tr _ _ _ _ (by omega) (by omega) m9, tr _ _ _ _ (by omega) (by omega) m10, tr _ _ _ _ (by omega) (by omega) m11, tr _ _ _ _ (by omega) (by omega) m12, tr _ _ _ _ (by omega) (by omega) m18, tr _ _ _ _ (by omega) (by omega) mw', fun i a b => ?_, fun i a b => ?_⟩
  · have z := ms'.1 i a b
    exact ⟨((p (m + 12) (by omega) (by omega)).2.2 i).trans z.1, (p (m + 13 + i) (by omega) (by omega)).1.trans z.2.1, (p (m + 13 + i) (by omega) (by omega)).2.1.trans z.2.2⟩
  · have z := ms'.2 i a b
    exact ⟨((p (m + 18) (by omega) (by omega)).2.2 i).trans z.1, (p (m + 19 + i) (by omega) (by omega)).1.trans z.2.1, (p (m + 19 + i) (by omega) (by omega)).2.1.trans z.2.2⟩
end
