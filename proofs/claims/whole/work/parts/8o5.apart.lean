section
theorem sumN_add {f g h : Nat → Int} (e : ∀ j, h j = f j + g j) : ∀ n, sumN h n = sumN f n + sumN g n := by
  intro n
  induction n with
  | zero => rfl
  | succ n ih => show sumN h n + h n = (sumN f n + f n) + (sumN g n + g n); rw [ih, e n]; omega
theorem sumN_mono {f g : Nat → Int} (e : ∀ j, f j ≤ g j) : ∀ n, sumN f n ≤ sumN g n := by
  intro n
  induction n with
  | zero => exact Int.le_refl 0
  | succ n ih => have := e n; show sumN f n + f n ≤ sumN g n + g n; omega
theorem sumN_congr {f g : Nat → Int} (e : ∀ j, f j = g j) : ∀ n, sumN f n = sumN g n := by
  intro n
  rw [show f = g from funext e]
theorem sumN_zero {f : Nat → Int} (e : ∀ j, f j = 0) : ∀ n, sumN f n = 0 := by
  intro n
  induction n with
  | zero => rfl
  | succ n ih => show sumN f n + f n = 0; rw [ih, e n]; rfl
theorem shT_sum {w : Nat → Int} {tx : Nat → List Int} {l : List Int} : ∀ n, shT w tx l n = sumN (fun j => if tx j = l then w j else 0) n := by
  intro n
  induction n with
  | zero => rfl
  | succ n ih => show shT w tx l n + _ = sumN _ n + _; rw [ih]
def fsP (tx : Nat → List Int) (i : Nat) : Prop := ∀ j, j < i → tx j ≠ tx i
noncomputable def faI (w : Nat → Int) (tx : Nat → List Int) (N m : Nat) : Int := sumN (fun i => cif (fsP tx i) (shT w tx (tx i) N) 0) m
theorem faI_t {w : Nat → Int} {tx : Nat → List Int} {N m : Nat} (h : fsP tx m) : faI w tx N (m + 1) = faI w tx N m + shT w tx (tx m) N := by
  show _ + cif _ _ _ = _; rw [cif_pos h]; rfl
theorem faI_f {w : Nat → Int} {tx : Nat → List Int} {N m : Nat} (h : ¬ fsP tx m) : faI w tx N (m + 1) = faI w tx N m := by
  show _ + cif _ _ _ = _; rw [cif_neg h]; exact Int.add_zero _
theorem faI_eq {w : Nat → Int} {tx : Nat → List Int} {N : Nat} : ∀ m, faI w tx N m = sumN (fun j => cif (∃ i, i < m ∧ tx i = tx j) (w j) 0) N := by
  intro m
  induction m with
  | zero =>
    show (0 : Int) = _
    rw [sumN_zero (fun j => cif_neg (fun ⟨i, a, _⟩ => absurd a (Nat.not_lt_zero i)))]
  | succ m ih =>
    by_cases e : fsP tx m
    · rw [faI_t e, ih, shT_sum]
      refine (sumN_add (fun j => ?_) N).symm
      by_cases q : tx j = tx m
      · rw [if_pos q, cif_pos ⟨m, by omega, q.symm⟩, cif_neg (fun ⟨i, a, b⟩ => e i a (b.trans q))]; omega
      · rw [if_neg q]
        by_cases z : ∃ i, i < m ∧ tx i = tx j
        · obtain ⟨i, a, b⟩ := z
          rw [cif_pos ⟨i, by omega, b⟩, cif_pos ⟨i, a, b⟩]; omega
        · rw [cif_neg z, cif_neg (fun ⟨i, a, b⟩ => by
            by_cases im : i = m
            · rw [im] at b; exact q b.symm
            · exact z ⟨i, by omega, b⟩)]; rfl
    · rw [faI_f e, ih]
      refine sumN_congr (fun j => ?_) N
      have e' : ∃ i, i < m ∧ tx i = tx m := Classical.byContradiction (fun n => e (fun j hj q => n ⟨j, hj, q⟩))
      by_cases z : ∃ i, i < m ∧ tx i = tx j
      · obtain ⟨i, a, b⟩ := z
        rw [cif_pos ⟨i, a, b⟩, cif_pos ⟨i, by omega, b⟩]
      · rw [cif_neg z, cif_neg (fun ⟨i, a, b⟩ => by
          by_cases im : i = m
          · obtain ⟨k, c, d⟩ := e'
            rw [im] at b; exact z ⟨k, c, d.trans b⟩
          · exact z ⟨i, by omega, b⟩)]
theorem faI_le {w : Nat → Int} {tx : Nat → List Int} {N : Nat} (h : ∀ i, 0 ≤ w i ∧ w i ≤ 1000) (m : Nat) : faI w tx N m ≤ sumN w N := by
  rw [faI_eq]
  refine sumN_mono (fun j => ?_) N
  by_cases z : ∃ i, i < m ∧ tx i = tx j
  · rw [cif_pos z]; exact Int.le_refl _
  · rw [cif_neg z]; exact (h j).1
def absI (x : Int) : Int := if 0 ≤ x then x else -x
noncomputable abbrev shA (W : qW) (r a : Int) (i : Nat) : Int := shT (w_wt W r a) (w_tx W r) (w_tx W r i) (w_T W r).length
noncomputable abbrev smA (W : qW) (r a : Int) : Int := sumN (w_wt W r a) (w_T W r).length
noncomputable def dsT (W : qW) (r a b : Int) (n : Nat) : Int := sumN (fun i => cif (fsP (w_tx W r) i) (absI (shA W r a i * smA W r b - shA W r b i * smA W r a)) 0) n
theorem dsT_t {W : qW} {r a b : Int} {n : Nat} (h : fsP (w_tx W r) n) : dsT W r a b (n + 1) = dsT W r a b n + absI (shA W r a n * smA W r b - shA W r b n * smA W r a) := by
  show _ + cif _ _ _ = _; rw [cif_pos h]; rfl
theorem dsT_f {W : qW} {r a b : Int} {n : Nat} (h : ¬ fsP (w_tx W r) n) : dsT W r a b (n + 1) = dsT W r a b n := by
  show _ + cif _ _ _ = _; rw [cif_neg h]; exact Int.add_zero _
theorem absI_le {p q : Int} (hp : 0 ≤ p) (hq : 0 ≤ q) : 0 ≤ absI (p - q) ∧ absI (p - q) ≤ p + q := by unfold absI; split <;> omega
theorem dsT_le {W : qW} {r a b : Int} (ha : 0 ≤ smA W r a) (hb : 0 ≤ smA W r b) : ∀ n, 0 ≤ dsT W r a b n ∧ dsT W r a b n ≤ faI (w_wt W r a) (w_tx W r) (w_T W r).length n * smA W r b + faI (w_wt W r b) (w_tx W r) (w_T W r).length n * smA W r a := by
  intro n
  induction n with
  | zero =>
    show (0 : Int) ≤ 0 ∧ (0 : Int) ≤ 0 * _ + 0 * _
    rw [Int.zero_mul, Int.zero_mul]; omega
  | succ n ih =>
    by_cases e : fsP (w_tx W r) n
    · rw [dsT_t e, faI_t e, faI_t e, Int.add_mul, Int.add_mul]
      have p1 : 0 ≤ shA W r a n * smA W r b := Int.mul_nonneg w_sh.1 hb
      have p2 : 0 ≤ shA W r b n * smA W r a := Int.mul_nonneg w_sh.1 ha
      have p3 := absI_le p1 p2
      change _ ∧ _ ≤ (_ + shA W r a n * smA W r b) + (_ + shA W r b n * smA W r a)
      generalize shA W r a n * smA W r b = u1 at *
      generalize shA W r b n * smA W r a = u2 at *
      omega
    · rw [dsT_f e, faI_f e, faI_f e]; exact ih
theorem dsT_rng {W : qW} {r a b : Int} (g : WG W) (hr : 0 ≤ r ∧ r < w_nr W) (n : Nat) : 0 ≤ dsT W r a b n ∧ dsT W r a b n ≤ 2 * (smA W r a * smA W r b) := by
  have sa := w_sum (k := a) g hr (n := (w_T W r).length) (Nat.le_refl _)
  have sb := w_sum (k := b) g hr (n := (w_T W r).length) (Nat.le_refl _)
  have d := dsT_le (W := W) (r := r) (a := a) (b := b) sa.1 sb.1 n
  have f1 := Int.mul_le_mul_of_nonneg_right (faI_le (w := w_wt W r a) (tx := w_tx W r) (N := (w_T W r).length) (w_wt_rng W r a) n) sb.1
  have f2 := Int.mul_le_mul_of_nonneg_right (faI_le (w := w_wt W r b) (tx := w_tx W r) (N := (w_T W r).length) (w_wt_rng W r b) n) sa.1
  rw [Int.mul_comm (sumN (w_wt W r b) _)] at f2
  change _ ≤ smA W r a * smA W r b at f1
  change _ ≤ smA W r a * smA W r b at f2
  exact ⟨d.1, by
    have := d.2
    change dsT W r a b n ≤ faI (w_wt W r a) (w_tx W r) (w_T W r).length n * sumN (w_wt W r b) (w_T W r).length + faI (w_wt W r b) (w_tx W r) (w_T W r).length n * sumN (w_wt W r a) (w_T W r).length at this
    omega⟩
noncomputable def dsV (W : qW) (r a b : Int) : Int := if smA W r a = 0 ∨ smA W r b = 0 then 0 else Int.tdiv (dsT W r a b (w_T W r).length * 1000000) (smA W r a * smA W r b)
theorem sm_rng {W : qW} {r a : Int} (g : WG W) (hr : 0 ≤ r ∧ r < w_nr W) : 0 ≤ smA W r a ∧ smA W r a ≤ 640000 := w_sum g hr (Nat.le_refl _)
theorem sh_rng {W : qW} {r a : Int} (g : WG W) (hr : 0 ≤ r ∧ r < w_nr W) (i : Nat) : 0 ≤ shA W r a i ∧ shA W r a i ≤ 640000 := ⟨w_sh.1, Int.le_trans w_sh.2 (sm_rng (a := a) g hr).2⟩
theorem prod_rng {x y : Int} (hx : 0 ≤ x ∧ x ≤ 640000) (hy : 0 ≤ y ∧ y ≤ 640000) : 0 ≤ x * y ∧ x * y ≤ 409600000000 := ⟨Int.mul_nonneg hx.1 hy.1, Int.le_trans (Int.mul_le_mul hx.2 hy.2 hy.1 (by decide)) (by decide)⟩
/-- the last step, on both sides -/
theorem ds_fin {W : qW} {r a b : Int} (g : WG W) (hr : 0 ≤ r ∧ r < w_nr W) (ha : ¬ smA W r a = 0) (hb : ¬ smA W r b = 0) : w64 (smA W r a * smA W r b) ≠ 0 ∧ w32 (w64 (Int.tdiv (w64 (dsT W r a b (w_T W r).length * 1000000)) (w64 (smA W r a * smA W r b)))) = dsV W r a b ∧ 0 ≤ dsV W r a b ∧ dsV W r a b ≤ 2000000 := by
  have sa := sm_rng (a := a) g hr
  have sb := sm_rng (a := b) g hr
  have p := prod_rng sa sb
  have dr := dsT_rng (a := a) (b := b) g hr (w_T W r).length
  have pp : 0 < smA W r a * smA W r b := Int.mul_pos (by omega) (by omega)
  unfold dsV
  rw [if_neg (fun q => q.elim ha hb), w64_prod sa sb]
  generalize smA W r a * smA W r b = y at *
  generalize dsT W r a b (w_T W r).length = x at *
  rw [w64_id (x := x * 1000000) (by omega) (by omega), Int.tdiv_eq_ediv_of_nonneg (by omega)]
  have q1 : 0 ≤ x * 1000000 / y := Int.ediv_nonneg (by omega) (by omega)
  have q2 : x * 1000000 / y ≤ 2000000 := Int.ediv_le_of_le_mul pp (by omega)
  generalize x * 1000000 / y = v at *
  rw [w64_id (x := v) (by omega) (by omega), w32_id (x := v) (by omega) (by omega)]
  exact ⟨by omega, rfl, q1, q2⟩
theorem dsV_rng {W : qW} {r a b : Int} (g : WG W) (hr : 0 ≤ r ∧ r < w_nr W) : 0 ≤ dsV W r a b ∧ dsV W r a b ≤ 2000000 := by
  by_cases ha : smA W r a = 0
  · unfold dsV; rw [if_pos (Or.inl ha)]; omega
  · by_cases hb : smA W r b = 0
    · unfold dsV; rw [if_pos (Or.inr hb)]; omega
    · exact (ds_fin g hr ha hb).2.2
theorem abs_step {x7 p q : Int} (h7 : 0 ≤ x7 ∧ x7 ≤ 1000000000000) (hp : 0 ≤ p ∧ p ≤ 409600000000) (hq : 0 ≤ q ∧ q ≤ 409600000000) : (0 ≤ q_lc (w64 (p - q)) 0 → w64 (x7 + w64 (p - q)) = x7 + absI (p - q)) ∧ (q_lc (w64 (p - q)) 0 < 0 → w64 (x7 + w64 (-w64 (p - q))) = x7 + absI (p - q)) := by
  rw [w64_id (x := p - q) (by omega) (by omega)]
  refine ⟨fun z => ?_, fun z => ?_⟩
  · have := q_lc_nn z
    rw [show absI (p - q) = p - q by unfold absI; rw [if_pos this]]
    exact w64_id (by omega) (by omega)
  · have := q_lc_neg z
    rw [show absI (p - q) = -(p - q) by unfold absI; rw [if_neg (by omega)], w64_id (x := -(p - q)) (by omega) (by omega)]
    exact w64_id (by omega) (by omega)
theorem c_32l {d : Nat} {P : Int → qM → Prop} {M : qM} {W : qW} {m r a b : Int} {c s : Nat} (g : WG W) (hr : 0 ≤ r ∧ r < w_nr W) (cx : w_ctx W M m r) (rd : w_rdy W M m r) (ha : 0 ≤ a ∧ a < 5) (hb : 0 ≤ b ∧ b < 5) (wa : C_wt M m a (w_wt W r a) (w_tx W r) (w_T W r).length) (wb : C_wt M m b (w_wt W r b) (w_tx W r) (w_T W r).length) (za : ¬ smA W r a = 0) (zb : ¬ smA W r b = 0) (K : P (dsV W r a b) M) : ∀ (n i : Nat), i + n = (w_T W r).length → q_At q_m32 (q_WP q_Pr (d + 1)) P 38 [(0, .inr (.inr m)), (1, .inl a), (2, .inl b), (3, .inr (.inl (smA W r a))), (5, .inr (.inl (smA W r b))), (7, .inr (.inl (dsT W r a b i))), (9, .inl (i : Int))] [] M c s := by
  have hm := cx.1.1
  have qa := ms hm (i := a) ha.1 ha.2
  have qb := ms hm (i := b) hb.1 hb.2
  have tk := tk_all g hr
  have sa := sm_rng (a := a) g hr
  have sb := sm_rng (a := b) g hr
  have fin := ds_fin g hr za zb
  intro n
  induction n with
  | zero =>
    intro i h0
    refine t_32_38 hm ?_
    rw [show q_nm M m 3 = (w_T W r).length from rd.1.1, show i = (w_T W r).length by omega, fin.2.1]
    exact ⟨fun _ => ⟨fin.1, K⟩, fun z => absurd z (by omega)⟩
  | succ n ih =>
    intro i h0
    have hin : i < (w_T W r).length := by omega
    have nx := ih (i + 1) (by omega)
    obtain ⟨l, hL, el⟩ := rd.2.2 i hin
    have lf : (l : Int) = i ↔ fsP (w_tx W r) i := by
      constructor
      · intro e j hj; exact hL.2.2 j (by omega)
      · intro e
        have l1 := hL.1
        rcases Nat.lt_or_ge l i with q | q
        · exact absurd hL.2.1 (e l q)
        · omega
    have dr := dsT_rng (a := a) (b := b) g hr i
    have pr := prod_rng sa sb
    have sha := sh_rng (a := a) g hr i
    have shb := sh_rng (a := b) g hr i
    refine t_32_38 hm ?_
    rw [show q_nm M m 3 = (w_T W r).length from rd.1.1, qa.1, qa.2.1, qa.2.2, qb.1, qb.2.1, qb.2.2, el, w32_id (x := (i : Int) + 1) (by omega) (by omega), show (i : Int) + 1 = ((i + 1 : Nat) : Int) by omega]
    refine ⟨fun z => absurd z (by omega), fun _ => ⟨by omega, fun z => ?_, fun z => ⟨ha, ⟨rfl, by omega, by omega⟩, hb, ⟨rfl, by omega, by omega⟩, ?_⟩⟩⟩
    · rw [dsT_f (fun q => z (lf.mpr q))] at nx; exact nx
    · have fs := lf.mp z
      rw [dsT_t fs] at nx
      rw [wa.2.2 i hin fs, wb.2.2 i hin fs]
      change q_WP _ _ _ [.inr (.inl (w64 (w64 (shA W r a i * smA W r b) - w64 (shA W r b i * smA W r a))))] _ _
      rw [w64_prod sha sb, w64_prod shb sa]
      have st := abs_step (x7 := dsT W r a b i) (by omega) (prod_rng sha sb) (prod_rng shb sa)
      refine q_enter (s_257_0 ⟨fun y => ⟨hm, ?_⟩, fun y => ⟨hm, ?_⟩⟩)
      · rw [st.1 y]; exact nx
      · rw [st.2 y]; exact nx
theorem c_32W {d : Nat} {P : Int → qM → Prop} {M : qM} {W : qW} {m r a b : Int} (g : WG W) (hr : 0 ≤ r ∧ r < w_nr W) (cx : w_ctx W M m r) (rd : w_rdy W M m r) (ha : 0 ≤ a ∧ a < 5) (hb : 0 ≤ b ∧ b < 5) (wa : C_wt M m a (w_wt W r a) (w_tx W r) (w_T W r).length) (wb : C_wt M m b (w_wt W r b) (w_tx W r) (w_T W r).length) (K : P (dsV W r a b) M) : q_WP q_Pr (d + 2) 32 [.inr (.inr m), .inl a, .inl b] M P := by
  have hm := cx.1.1
  have sa := sm_rng (a := a) g hr
  have sb := sm_rng (a := b) g hr
  refine q_enter (t_32_0 hm ?_)
  rw [wa.2.1, wb.2.1]
  change (_ ∧ _) ∧ (_ ∧ _) ∧ (q_lc (smA W r a) 0 ≤ 0 → _) ∧ (0 < q_lc (smA W r a) 0 → (0 < q_lc (smA W r b) 0 → _) ∧ (q_lc (smA W r b) 0 ≤ 0 → _))
  refine ⟨ha, hb, fun z => ?_, fun z => ⟨fun y => ?_, fun y => ?_⟩⟩
  · have := q_lc_le z
    unfold dsV at K; rw [if_pos (Or.inl (by omega))] at K; exact K
  · have z' := q_lc_pos z
    have y' := q_lc_pos y
    exact c_32l (d := d) g hr cx rd ha hb wa wb (by omega) (by omega) K (w_T W r).length 0 (by omega)
  · have := q_lc_le y
    unfold dsV at K; rw [if_pos (Or.inr (by omega))] at K; exact K
end
