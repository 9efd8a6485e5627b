section
noncomputable def prW (W : qW) (r k : Int) (i : Nat) : Int := w_wt W r k i * w_wt W r 4 i
theorem prW_rng (W : qW) (r k : Int) (i : Nat) : 0 ≤ prW W r k i ∧ prW W r k i ≤ 1000000 := by
  have a := w_wt_rng W r k i
  have b := w_wt_rng W r 4 i
  unfold prW
  exact ⟨Int.mul_nonneg a.1 b.1, Int.le_trans (Int.mul_le_mul a.2 b.2 b.1 (by decide)) (by decide)⟩
noncomputable def prT (W : qW) (r k kd : Int) (n : Nat) : Int := sumN (fun i => cif ((w_t W r i).1 = kd) (prW W r k i) 0) n
theorem prT_t {W : qW} {r k kd : Int} {n : Nat} (h : (w_t W r n).1 = kd) : prT W r k kd (n + 1) = prT W r k kd n + prW W r k n := by
  show _ + cif _ _ _ = _; rw [cif_pos h]; rfl
theorem prT_f {W : qW} {r k kd : Int} {n : Nat} (h : ¬ (w_t W r n).1 = kd) : prT W r k kd (n + 1) = prT W r k kd n := by
  show _ + cif _ _ _ = _; rw [cif_neg h]; exact Int.add_zero _
theorem pr_rng {W : qW} {r k kd : Int} : ∀ n : Nat, 0 ≤ prT W r k kd n ∧ prT W r k kd n ≤ sumN (prW W r k) n ∧ sumN (prW W r k) n ≤ 1000000 * n := by
  intro n
  induction n with
  | zero => exact ⟨Int.le_refl 0, Int.le_refl 0, Int.le_refl 0⟩
  | succ n ih =>
    have a := prW_rng W r k n
    have e : sumN (prW W r k) (n + 1) = sumN (prW W r k) n + prW W r k n := rfl
    by_cases h : (w_t W r n).1 = kd
    · rw [prT_t h]; omega
    · rw [prT_f h]; omega
theorem c_130l {d : Nat} {P : Int → qM → Prop} {M : qM} {W : qW} {m r k kd x : Int} {c s : Nat} (g : WG W) (hr : 0 ≤ r ∧ r < w_nr W) (cx : w_ctx W M m r) (rd : w_rdy W M m r) (hk : 0 ≤ k ∧ k < 5) (wt : C_wt M m k (w_wt W r k) (w_tx W r) (w_T W r).length) (wt4 : C_wt M m 4 (w_wt W r 4) (w_tx W r) (w_T W r).length) (K : P (lowV (prT W r k kd (w_T W r).length) (sumN (prW W r k) (w_T W r).length) x) M) : ∀ (n i : Nat), i + n = (w_T W r).length → q_At q_m130 (q_WP q_Pr (d + 1)) P 38 [(2, .inl k), (3, .inl kd), (4, .inl x), (5, .inr (.inr m)), (6, .inl (prT W r k kd i)), (7, .inl (sumN (prW W r k) i)), (8, .inl (i : Int))] [] M c s := by
  have hm := cx.1.1
  have q := mw hm (i := k) hk.1 hk.2
  have q4 := mw hm (i := 4) (by decide) (by decide)
  have tk := tk_all g hr
  intro n
  induction n with
  | zero =>
    intro i h0
    have pr := pr_rng (W := W) (r := r) (k := k) (kd := kd) (w_T W r).length
    refine t_130_38 hm.1 ?_
    rw [show q_nm M m 3 = (w_T W r).length from rd.1.1, show i = (w_T W r).length by omega]
    exact ⟨mk0 hm, fun _ => c_144 hm.1 ⟨pr.1, pr.2.1⟩ (by omega) ⟨hm.1, K⟩, fun z => absurd z (by omega)⟩
  | succ n ih =>
    intro i h0
    have hin : i < (w_T W r).length := by omega
    have at1 := rd.1.2 i hin
    have pr := pr_rng (W := W) (r := r) (k := k) (kd := kd) i
    have pw := prW_rng W r k i
    have nx := ih (i + 1) (by omega)
    rw [show sumN (prW W r k) (i + 1) = sumN (prW W r k) i + prW W r k i from rfl] at nx
    refine t_130_38 hm.1 ?_
    rw [mr4 hm, mk4 hm, ml4 hm, mr14 hm, mk12 hm, ml12 hm, q.1, q.2.1, q.2.2, q4.1, q4.2.1, q4.2.2, show q_nm M m 3 = (w_T W r).length from rd.1.1, show q_nm M (m + 4) i = (w_t W r i).1 from at1.1, wt.1 i hin, wt4.1 i hin, show w_wt W r k i * w_wt W r 4 i = prW W r k i from rfl, w32_id (x := prW W r k i) (by omega) (by omega), w32_id (x := sumN (prW W r k) i + prW W r k i) (by omega) (by omega), w32_id (x := prT W r k kd i + prW W r k i) (by omega) (by omega), w32_id (x := (i : Int) + 1) (by omega) (by omega), show (i : Int) + 1 = ((i + 1 : Nat) : Int) by omega]
    refine ⟨mk0 hm, fun z => absurd z (by omega), fun _ => ⟨mk0 hm, ⟨by omega, by omega, by omega⟩, ⟨rfl, by omega, by omega⟩, mk0 hm, ⟨by omega, by omega, by omega⟩, ⟨rfl, by omega, by omega⟩, mk0 hm, ⟨by omega, by omega, by omega⟩, fun z => ?_, fun z => ?_⟩⟩
    · rw [prT_f z] at nx; exact nx
    · rw [prT_t z] at nx; exact nx
theorem r_248l {d : Nat} {P : Int → qM → Prop} {M0 : qM} {W : qW} {r k kd x : Int} {c s : Nat} (g : WG W) (w0 : WR W M0) (hr : 0 ≤ r ∧ r < w_nr W) (rd0 : w_rd W M0 r) (wt : ∀ i : Nat, i < (w_T W r).length → q_nm M0 118 i = w_wt W r k i) (K : ∀ M', fr Zp M0 M' → P (lowV (prT W r k kd (w_T W r).length) (sumN (prW W r k) (w_T W r).length) x) M') : ∀ (n i : Nat) (M : qM), i + n = (w_T W r).length → fr Zp M0 M → q_lay M → q_At q_m248 (q_WP q_Pr (d + 6)) P 42 [(0, .inr (.inr 66)), (3, .inl kd), (4, .inl x), (5, .inr (.inl (sumN (prW W r k) i))), (7, .inr (.inl (prT W r k kd i))), (9, .inl (i : Int))] [] M c s := by
  have tk := tk_all g hr
  intro n
  induction n with
  | zero =>
    intro i M h0 f hl
    have pr := pr_rng (W := W) (r := r) (k := k) (kd := kd) (w_T W r).length
    have rd := R_rdy_fr rd0 f (fun a j q => by unfold Zp at q; omega)
    have kk := K M f
    refine t_248_42 hl ?_
    rw [show q_nm M 66 55 = (w_T W r).length from rd.2.2.2.1, show i = (w_T W r).length by omega]
    refine ⟨fun _ => ⟨fun z => ?_, fun z => ?_⟩, fun z => absurd z (by omega)⟩
    · have := q_lc_nz z
      exact r_227 (d := d + 4) hl ⟨pr.1, pr.2.1⟩ (by omega) ⟨hl, kk⟩
    · have := q_lc_z z
      unfold lowV at kk; rw [if_pos (by omega)] at kk; exact kk
  | succ n ih =>
    intro i M h0 f hl
    have hin : i < (w_T W r).length := by omega
    have rd := R_rdy_fr rd0 f (fun a j q => by unfold Zp at q; omega)
    have ta := rd.2.2.2.2 i hin
    have pr := pr_rng (W := W) (r := r) (k := k) (kd := kd) i
    have pw := prW_rng W r k i
    have e118 : q_nm M 118 i = w_wt W r k i := (f.2 _ _ (by unfold Zp; omega)).trans (wt i hin)
    refine t_248_42 hl ?_
    rw [show q_nm M 66 55 = (w_T W r).length from rd.2.2.2.1, e118, w32_id (x := (i : Int) + 1) (by omega) (by omega), show (i : Int) + 1 = ((i + 1 : Nat) : Int) by omega]
    refine ⟨fun z => absurd z (by omega), fun _ => ⟨by omega, fun z => ⟨by omega, ?_⟩, fun z => ?_⟩⟩
    · refine r_214 (d := d) hl (R_rdy_fa rd hin) (so := w_SO W 4) (R_so_fr (w0.2.2.2.1 4 (by decide) (by decide)) (fun a j _ _ => f.2 _ _ (by unfold Zp; omega))) (fun M2 f2 => ⟨fr_lay f2 hl, ?_⟩)
      have nx := ih (i + 1) M2 (by omega) (fr_trans f f2) (fr_lay f2 hl)
      rw [show sumN (prW W r k) (i + 1) = sumN (prW W r k) i + prW W r k i from rfl] at nx
      rw [show q_nm M2 108 i = (w_t W r i).1 from (f2.2 _ _ (by unfold Zp; omega)).trans ta.1.1]
      change (0 ≤ (i : Int) ∧ (i : Int) < 640) ∧ (¬ _ → q_At q_m248 _ _ _ [_, _, _, (5, .inr (.inl (w64 (_ + w64 (prW W r k i))))), _, _] _ _ _ _) ∧ (_ → q_At q_m248 _ _ _ [_, _, _, (5, .inr (.inl (w64 (_ + w64 (prW W r k i))))), (7, .inr (.inl (w64 (_ + w64 (prW W r k i))))), _] _ _ _ _)
      rw [w64_id (x := prW W r k i) (by omega) (by omega), w64_id (x := sumN (prW W r k) i + prW W r k i) (by omega) (by omega), w64_id (x := prT W r k kd i + prW W r k i) (by omega) (by omega)]
      refine ⟨by omega, fun y => ?_, fun y => ?_⟩
      · rw [prT_f y] at nx; exact nx
      · rw [prT_t y] at nx; exact nx
    · have nx := ih (i + 1) M (by omega) f hl
      have pz : prW W r k i = 0 := by unfold prW; rw [z, Int.zero_mul]
      rw [show sumN (prW W r k) (i + 1) = sumN (prW W r k) i + prW W r k i from rfl, pz, Int.add_zero] at nx
      by_cases y : (w_t W r i).1 = kd
      · rw [prT_t y, pz, Int.add_zero] at nx; exact nx
      · rw [prT_f y] at nx; exact nx
theorem ok_lean' {L : Nat} {X : Int → Int} {D : Nat} : ∀ a b c e : Int, q_i32 a → q_i32 b → q_i32 c → q_i32 e → q_ok L X (INV L X) (D + 30) 130 248 [.inl a, .inl b, .inl c, .inl e] := by
  intro a b c e _ _ _ _
  refine q_okQ (fun W => cif ((w_mk W b ∧ (0 ≤ a ∧ a < w_nr W)) ∧ (0 ≤ c ∧ c ≤ 8)) (lowV (prT W a b c (w_T W a).length) (sumN (prW W a b) (w_T W a).length) e) (-1)) id (fun W g => g) (fun W M hl g h => ?_) (fun W M hl g h => ?_)
  · refine q_enter (t_130_0 (d := D + 28) hl (c_140W (d := D + 21) hl g h (fun mk hr M' f l w cx rd wt er e2 => ⟨l, fun z => absurd z (by have := q_ml_ge cx.1.1; omega), fun _ => ⟨fun y => ?_, fun y => ⟨(cif_neg (fun q => y q.2)).symm, kR_fr hl f, w⟩⟩⟩) (fun hn => ⟨hl, fun _ => ⟨(cif_neg (fun q => hn q.1)).symm, kR_rfl hl, h⟩, fun z => absurd rfl z⟩)))
    have mk1 := mk.1
    rw [cif_pos ⟨⟨mk, hr⟩, y⟩]
    rw [← er] at e2 wt ⊢
    refine c_142W (d := D + 22) l g w hr (by omega) e2 (fun M2 f2 l2 w2 er2 e22 rd2 wt2 ot2 => ⟨l2, ?_⟩)
    have cx2 := WC_ctx g w2 hr
    rw [er2] at cx2
    exact c_130l (d := D + 28) g hr cx2 rd2 (by omega) (ot2 b (by omega) (by omega) (by omega) wt) wt2 ⟨rfl, kR_fr hl (fr_trans f f2), w2⟩ (w_T W a).length 0 (by omega)
  · refine q_enter (t_248_0 (d := D + 27) hl ?_)
    rw [h.2.2.1.1]
    refine ⟨g.2.2.1.1, fun hr => ⟨fun z => ⟨fun y => ?_, fun y => ⟨(cif_neg (fun q => y q.2)).symm, fr_rfl, h⟩⟩, fun z => ⟨(cif_neg (fun q => z ((R_mk h).mpr q.1.1))).symm, fr_rfl, h⟩⟩, fun hr => ⟨(cif_neg (fun q => hr q.1.2)).symm, fr_rfl, h⟩⟩
    have mk := (R_mk h).mp z
    rw [cif_pos ⟨⟨mk, hr⟩, y⟩]
    refine r_215W (d := D + 22) hl g h hr mk (fun M' f l w rd wt => ⟨l, r_248l (d := D + 23) g w hr rd wt (fun M2 f2 => ⟨rfl, fr_trans f (fr_mono f2 (fun x j q => by unfold Zp at q; unfold Zr; omega)), ?_⟩) (w_T W a).length 0 M' (by omega) fr_rfl l⟩)
    have rd2 := R_rdy_fr rd f2 (fun x j q => by unfold Zp at q; omega)
    exact WR_Y w f2 (fun x j q => by unfold Zp at q; omega) hr rd2.2.1.1 rd2.2.1.2 rd2.2.2.2
end
