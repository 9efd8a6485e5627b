section
def gpQ (W : qW) (r : Int) (sd : List Int) (i : Nat) : Prop := w_tx W r i = sd ∧ ((w_t W r i).1 = 1 ∨ (w_t W r i).1 = 3)
noncomputable def gpS (W : qW) (r : Int) (sd : List Int) : Nat → Int
  | 0 => -1
  | n + 1 => cif (gpQ W r sd n) (if gpS W r sd n = -1 ∨ gapT (w_t W r n) < gpS W r sd n then gapT (w_t W r n) else gpS W r sd n) (gpS W r sd n)
theorem gpS_t {W : qW} {r : Int} {sd : List Int} {n : Nat} (h : gpQ W r sd n) : gpS W r sd (n + 1) = if gpS W r sd n = -1 ∨ gapT (w_t W r n) < gpS W r sd n then gapT (w_t W r n) else gpS W r sd n := cif_pos h
theorem gpS_f {W : qW} {r : Int} {sd : List Int} {n : Nat} (h : ¬ gpQ W r sd n) : gpS W r sd (n + 1) = gpS W r sd n := cif_neg h
theorem gap13 {W : qW} {r : Int} (g : WG W) (hr : 0 ≤ r ∧ r < w_nr W) {i : Nat} (hi : i < (w_T W r).length) (h : (w_t W r i).1 = 1 ∨ (w_t W r i).1 = 3) : (w_t W r i).2.2 - (w_t W r i).2.1 = gapT (w_t W r i) ∧ 1 ≤ gapT (w_t W r i) ∧ gapT (w_t W r i) ≤ 6 := by
  have ok := (tk_all g hr).1 _ (getT_mem hi)
  have mem := getT_mem hi
  have gl := (g.2.2.1.2 r hr.1 hr.2).1
  rcases tkK_m 8 _ mem with q | ⟨j, p, o, j1, t1, t2, b, t3⟩
  · have e : (w_t W r i).1 = 0 := by show ((w_T W r).getD i (0, 0, 0)).1 = 0; rw [q]
    omega
  · have mp := mayB_iff.mp b
    change (w_t W r i).1 = j at t1
    change (w_t W r i).2.1 = p at t2
    change (w_t W r i).2.2 = ot j o at t3
    have e3 : (w_t W r i).2.2 = o := by rw [t3]; unfold ot; rw [if_neg (by omega)]
    have lt : (p : Int) < o := by
      unfold mayP mayW at mp
      rcases mp with z | z | z | (z | z | z) | z
      · exact z.2.1
      · omega
      · omega
      · omega
      · omega
      · omega
      · omega
    unfold okT at ok
    change ((w_t W r i).1 = 0 ∧ _ ∧ _) ∨ (_ ∧ (0 ≤ (w_t W r i).2.1 ∧ (w_t W r i).2.1 < _) ∧ (0 ≤ (w_t W r i).2.2 ∧ (w_t W r i).2.2 < _) ∧ _) ∨ ((5 ≤ (w_t W r i).1 ∧ (w_t W r i).1 ≤ 7) ∧ _ ∧ _) ∨ ((w_t W r i).1 = 8 ∧ _ ∧ _) at ok
    unfold gapT
    rw [if_pos (by omega), if_pos (by omega)]
    rcases ok with z | z | z | z
    · omega
    · have := z.2.1; have := z.2.2.1; omega
    · omega
    · omega
theorem gpS_rng {W : qW} {r : Int} {sd : List Int} (g : WG W) (hr : 0 ≤ r ∧ r < w_nr W) : ∀ n : Nat, n ≤ (w_T W r).length → -1 ≤ gpS W r sd n ∧ gpS W r sd n ≤ 6 := by
  intro n
  induction n with
  | zero => intro _; exact ⟨Int.le_refl _, by show (-1 : Int) ≤ 6; omega⟩
  | succ n ih =>
    intro h
    have i := ih (by omega)
    by_cases q : gpQ W r sd n
    · rw [gpS_t q]
      have := gap13 g hr (show n < (w_T W r).length by omega) q.2
      split <;> omega
    · rw [gpS_f q]; exact i
theorem c_30l {d : Nat} {P : Int → qM → Prop} {M : qM} {W : qW} {m r v : Int} {sd : List Int} {c s : Nat} (g : WG W) (hr : 0 ≤ r ∧ r < w_nr W) (cx : w_ctx W M m r) (rd : w_rdy W M m r) (hf : isF (w_tx W r) (w_T W r).length sd v) (K : P (gpS W r sd (w_T W r).length) M) : ∀ (n i : Nat), i + n = (w_T W r).length → q_At q_m30 (q_WP q_Pr (d + 1)) P 11 [(0, .inr (.inr m)), (2, .inl v), (3, .inl (gpS W r sd i)), (4, .inl (i : Int))] [] M c s := by
  have hm := cx.1.1
  have tk := tk_all g hr
  intro n
  induction n with
  | zero =>
    intro i h0
    refine t_30_11 hm ?_
    rw [show q_nm M m 3 = (w_T W r).length from rd.1.1]
    rw [← show i = (w_T W r).length by omega] at K ⊢
    exact ⟨fun _ => K, fun z => absurd z (by omega)⟩
  | succ n ih =>
    intro i h0
    have hin : i < (w_T W r).length := by omega
    have at1 := rd.1.2 i hin
    have gr := gpS_rng (sd := sd) g hr i (by omega)
    have nx := ih (i + 1) (by omega)
    refine t_30_11 hm ?_
    rw [show q_nm M m 3 = (w_T W r).length from rd.1.1, show q_nm M (m + 4) i = (w_t W r i).1 from at1.1, show q_nm M (m + 5) i = (w_t W r i).2.1 from at1.2.1, show q_nm M (m + 6) i = (w_t W r i).2.2 from at1.2.2, w32_id (x := (i : Int) + 1) (by omega) (by omega), show (i : Int) + 1 = ((i + 1 : Nat) : Int) by omega]
    have hit : w_tx W r i = sd → ((w_t W r i).1 = 1 ∨ (w_t W r i).1 = 3) → ((¬ gpS W r sd i = -1 → q_At q_m30 (q_WP q_Pr (d + 1)) P 11 [(0, .inr (.inr m)), (2, .inl v), (3, .inl (min (gpS W r sd i) (w32 ((w_t W r i).2.2 - (w_t W r i).2.1)))), (4, .inl ((i + 1 : Nat) : Int))] [] M c s) ∧ (gpS W r sd i = -1 → q_At q_m30 (q_WP q_Pr (d + 1)) P 11 [(0, .inr (.inr m)), (2, .inl v), (3, .inl (w32 ((w_t W r i).2.2 - (w_t W r i).2.1))), (4, .inl ((i + 1 : Nat) : Int))] [] M c s)) := fun a b => by
      have g13 := gap13 g hr hin b
      rw [g13.1, w32_id (x := gapT (w_t W r i)) (by omega) (by omega)]
      rw [gpS_t ⟨a, b⟩] at nx
      refine ⟨fun z => ?_, fun z => ?_⟩
      · rw [show min (gpS W r sd i) (gapT (w_t W r i)) = if gpS W r sd i = -1 ∨ gapT (w_t W r i) < gpS W r sd i then gapT (w_t W r i) else gpS W r sd i by split <;> omega]; exact nx
      · rw [if_pos (Or.inl z)] at nx; exact nx
    refine ⟨fun z => absurd z (by omega), fun _ => ⟨by omega, fun z => ?_, fun z => ⟨by omega, fun y => ?_, fun y => ⟨by omega, fun x => ?_, fun x => ?_⟩⟩⟩⟩
    · rw [gpS_f (fun q => z ((lead_W rd hf hin).mpr q.1))] at nx; exact nx
    · have h := hit ((lead_W rd hf hin).mp z) (Or.inl y)
      exact ⟨by omega, by omega, h⟩
    · rw [gpS_f (fun q => q.2.elim y x)] at nx; exact nx
    · have h := hit ((lead_W rd hf hin).mp z) (Or.inr x)
      exact ⟨by omega, by omega, h⟩
def faS (a p v : Int) : Int := if v = -1 then p else if p = -1 then v else if (if a = 0 then v < p else p < v) then v else p
noncomputable abbrev gpN (W : qW) (j : Int) : Int := gpS W (w_NR W j) (w_NL W j) (w_T W (w_NR W j)).length
noncomputable def faN (W : qW) (a : Int) : Nat → Int
  | 0 => -1
  | n + 1 => faS a (faN W a n) (gpN W n)
theorem c_124e {d : Nat} {P : Int → qM → Prop} {M : qM} {a p v y0 y : Int} {c s : Nat} (hl : q_lay M) (h0 : ¬ y0 = 0 ↔ (if a = 0 then v < p else p < v)) (K : q_At q_m124 (q_WP q_Pr d) P 4 [(0, .inr (.inr 0)), (1, .inl a), (2, .inl (faS a p v)), (3, .inl (w32 (y + 1)))] [] M c s) : q_At q_m124 (q_WP q_Pr d) P 84 [(0, .inr (.inr 0)), (1, .inl a), (2, .inl p), (3, .inl y), (5, .inl v)] [.inl y0] M c s := by
  unfold faS at K
  refine t_124_84 hl ⟨fun z => ?_, fun z => ⟨fun x => ?_, fun x => ⟨fun u => ?_, fun u => ?_⟩⟩⟩
  · rw [if_pos z] at K; exact t_124_105 hl K
  · rw [if_neg z, if_pos x] at K; exact t_124_105 hl K
  · rw [if_neg z, if_neg x, if_neg (fun q => h0.mpr q u)] at K; exact t_124_105 hl K
  · rw [if_neg z, if_neg x, if_pos (h0.mp u)] at K; exact t_124_105 hl K
theorem c_124l {d : Nat} {P : Int → qM → Prop} {M0 : qM} {W : qW} {a : Int} {c s : Nat} (g : WG W) (K : ∀ M', fr Zc M0 M' → WC W M' → P (faN W a (w_nn W).toNat) M') : ∀ (n y : Nat) (M : qM), (y : Int) + n = w_nn W → fr Zc M0 M → q_lay M → WC W M → q_At q_m124 (q_WP q_Pr (d + 8)) P 4 [(0, .inr (.inr 0)), (1, .inl a), (2, .inl (faN W a y)), (3, .inl (y : Int))] [] M c s := by
  intro n
  induction n with
  | zero =>
    intro y M h1 f hl w
    have kk := K M f w
    rw [show (w_nn W).toNat = y by omega] at kk
    refine t_124_4 hl ?_
    rw [w.2.2.2.2.2.2.1.1]
    exact ⟨fun _ => kk, fun z => absurd z (by omega)⟩
  | succ n ih =>
    intro y M h1 f hl w
    have g1 := g.2.2.2.2.1.1
    have hj : 0 ≤ (y : Int) ∧ (y : Int) < w_nn W := by omega
    have hr := NR_ok g hj
    refine t_124_4 hl ?_
    rw [w.2.2.2.2.2.2.1.1, (w.2.2.2.2.2.2.1.2 y hj.1 hj.2).1]
    refine ⟨fun z => absurd z (by omega), fun _ => ⟨by omega, c_139W (d := d + 2) hl g w (fun _ M' f' l' w' er cx rd e2 => ⟨l', fun _ => ⟨by omega, mk0 cx.1.1, ?_⟩, fun z => absurd z (by have := q_ml_ge cx.1.1; omega)⟩) (fun hn => absurd hr hn)⟩⟩
    have hm := cx.1.1
    have nx : q_At q_m124 (q_WP q_Pr (d + 8)) P 4 [(0, .inr (.inr 0)), (1, .inl a), (2, .inl (faS a (faN W a y) (gpN W y))), (3, .inl (w32 ((y : Int) + 1)))] [] M' c s := by
      rw [w32_id (x := (y : Int) + 1) (by omega) (by omega), show (y : Int) + 1 = ((y + 1 : Nat) : Int) by omega]
      exact ih (y + 1) M' (by omega) (fr_trans f f') l' w'
    refine q_enter (d := d + 7) (t_30_0 hm (c_20W (d := d + 4) cx rd (spkN l' g w' hj) (fun v hf => ⟨hm, ?_⟩)))
    refine c_30l (d := d + 6) g hr cx rd hf ⟨l', fun z => ⟨fun x => ?_, fun x => ?_⟩, fun z => ⟨fun x => ?_, fun x => ?_⟩⟩ (w_T W (w_NR W y)).length 0 (by omega)
    · exact c_124e l' ⟨fun q => absurd rfl q, fun q => by rw [if_pos z] at q; omega⟩ nx
    · exact c_124e l' ⟨fun q => by rw [if_pos z]; exact x, fun q => by decide⟩ nx
    · exact c_124e l' ⟨fun q => absurd rfl q, fun q => by rw [if_neg z] at q; omega⟩ nx
    · exact c_124e l' ⟨fun q => by rw [if_neg z]; exact x, fun q => by decide⟩ nx
theorem r_241i {d : Nat} {P : Int → qM → Prop} {M : qM} {W : qW} {a p : Int} {y : Nat} {c s : Nat} (hl : q_lay M) (g : WG W) (w : WR W M) (hj : 0 ≤ (y : Int) ∧ (y : Int) < w_nn W) (rd : w_rd W M (w_NR W y)) (K : q_At q_m241 (q_WP q_Pr (d + 2)) P 4 [(0, .inr (.inr 66)), (1, .inl a), (2, .inl (faS a p (gpN W y))), (3, .inl (w32 ((y : Int) + 1)))] [] M c s) : ∀ (n i : Nat), i + n = (w_T W (w_NR W y)).length → q_At q_m241 (q_WP q_Pr (d + 2)) P 28 [(0, .inr (.inr 66)), (1, .inl a), (2, .inl p), (3, .inl (y : Int)), (4, .inl (gpS W (w_NR W y) (w_NL W y) i)), (5, .inl (i : Int))] [] M c s := by
  have g1 := g.2.2.2.2.1.1
  have hr := NR_ok g hj
  have tk := tk_all g hr
  have e55 : q_nm M 66 55 = (w_T W (w_NR W y)).length := rd.2.2.2.1
  intro n
  induction n with
  | zero =>
    intro i h0
    refine t_241_28 hl ?_
    rw [e55, show i = (w_T W (w_NR W y)).length by omega]
    unfold faS gpN at K
    refine ⟨fun _ => ⟨fun z => ⟨fun x => ?_, fun x => ⟨fun u => ⟨fun v => ?_, fun v => ?_⟩, fun u => ⟨fun v => ?_, fun v => ?_⟩⟩⟩, fun z => ?_⟩, fun z => absurd z (by omega)⟩
    · rw [if_neg z, if_pos x] at K; exact t_241_138 hl K
    · rw [if_neg z, if_neg x, if_neg (by rw [if_pos u]; omega)] at K; exact t_241_138 hl K
    · rw [if_neg z, if_neg x, if_pos (by rw [if_pos u]; exact v)] at K; exact t_241_138 hl K
    · rw [if_neg z, if_neg x, if_neg (by rw [if_neg u]; omega)] at K; exact t_241_138 hl K
    · rw [if_neg z, if_neg x, if_pos (by rw [if_neg u]; exact v)] at K; exact t_241_138 hl K
    · rw [if_pos z] at K; exact t_241_138 hl K
  | succ n ih =>
    intro i h0
    have hin : i < (w_T W (w_NR W y)).length := by omega
    have ta := rd.2.2.2.2 i hin
    have nx : q_At q_m241 (q_WP q_Pr (d + 2)) P 96 [(0, .inr (.inr 66)), (1, .inl a), (2, .inl p), (3, .inl (y : Int)), (4, .inl (gpS W (w_NR W y) (w_NL W y) (i + 1))), (5, .inl (i : Int))] [] M c s := t_241_96 hl (by
      rw [w32_id (x := (i : Int) + 1) (by omega) (by omega), show (i : Int) + 1 = ((i + 1 : Nat) : Int) by omega]
      exact ih (i + 1) (by omega))
    have chk : ((w_t W (w_NR W y) i).1 = 1 ∨ (w_t W (w_NR W y) i).1 = 3) → (gpS W (w_NR W y) (w_NL W y) i = -1 ∨ gapT (w_t W (w_NR W y) i) < gpS W (w_NR W y) (w_NL W y) i) → q_At q_m241 (q_WP q_Pr (d + 2)) P 77 [(0, .inr (.inr 66)), (1, .inl a), (2, .inl p), (3, .inl (y : Int)), (4, .inl (gpS W (w_NR W y) (w_NL W y) i)), (5, .inl (i : Int))] [] M c s := fun k b => t_241_77 hl (by
      refine r_236W hl g w hr rd hin hj (fun e => ⟨hl, fun q => absurd q (by decide), fun _ => ⟨by omega, ?_⟩⟩) (fun e => ⟨hl, fun _ => ?_, fun q => absurd rfl q⟩)
      · rw [show q_nm M 113 i = gapT (w_t W (w_NR W y) i) from ta.2.2.2.1]
        rw [gpS_t ⟨e, k⟩, if_pos b] at nx; exact nx
      · rw [gpS_f (fun q => e q.1)] at nx; exact nx)
    have skp : (¬ (gpS W (w_NR W y) (w_NL W y) i = -1 ∨ gapT (w_t W (w_NR W y) i) < gpS W (w_NR W y) (w_NL W y) i)) → q_At q_m241 (q_WP q_Pr (d + 2)) P 96 [(0, .inr (.inr 66)), (1, .inl a), (2, .inl p), (3, .inl (y : Int)), (4, .inl (gpS W (w_NR W y) (w_NL W y) i)), (5, .inl (i : Int))] [] M c s := fun b => by
      by_cases e : gpQ W (w_NR W y) (w_NL W y) i
      · rw [gpS_t e, if_neg b] at nx; exact nx
      · rw [gpS_f e] at nx; exact nx
    refine t_241_28 hl ?_
    rw [e55, show q_nm M 108 i = (w_t W (w_NR W y) i).1 from ta.1.1, show q_nm M 113 i = gapT (w_t W (w_NR W y) i) from ta.2.2.2.1]
    refine ⟨fun z => absurd z (by omega), fun _ => ⟨by omega, fun z => ⟨fun u => chk (Or.inl z) (Or.inl u), fun u => ⟨by omega, fun v => skp (fun q => q.elim u (fun v' => by omega)), fun v => chk (Or.inl z) (Or.inr v)⟩⟩, fun z => ⟨by omega, fun x => ?_, fun x => ⟨fun u => chk (Or.inr x) (Or.inl u), fun u => ⟨by omega, fun v => skp (fun q => q.elim u (fun v' => by omega)), fun v => chk (Or.inr x) (Or.inr v)⟩⟩⟩⟩⟩
    rw [gpS_f (fun q => q.2.elim z x)] at nx; exact nx
theorem r_241l {d : Nat} {P : Int → qM → Prop} {M0 : qM} {W : qW} {a : Int} {c s : Nat} (g : WG W) (K : ∀ M', fr Zr M0 M' → WR W M' → P (faN W a (w_nn W).toNat) M') : ∀ (n y : Nat) (M : qM), (y : Int) + n = w_nn W → fr Zr M0 M → q_lay M → WR W M → q_At q_m241 (q_WP q_Pr (d + 6)) P 4 [(0, .inr (.inr 66)), (1, .inl a), (2, .inl (faN W a y)), (3, .inl (y : Int))] [] M c s := by
  intro n
  induction n with
  | zero =>
    intro y M h1 f hl w
    have kk := K M f w
    rw [show (w_nn W).toNat = y by omega] at kk
    refine t_241_4 hl ?_
    rw [w.2.2.2.2.2.2.1.1]
    exact ⟨fun _ => kk, fun z => absurd z (by omega)⟩
  | succ n ih =>
    intro y M h1 f hl w
    have g1 := g.2.2.2.2.1.1
    have hj : 0 ≤ (y : Int) ∧ (y : Int) < w_nn W := by omega
    have hr := NR_ok g hj
    refine t_241_4 hl ?_
    rw [w.2.2.2.2.2.2.1.1, (w.2.2.2.2.2.2.1.2 y hj.1 hj.2).1]
    refine ⟨fun z => absurd z (by omega), fun _ => ⟨by omega, r_201W (d := d) hl g w hr (fun M' f' l' w' rd => ⟨l', ?_⟩)⟩⟩
    refine r_241i (d := d + 4) l' g w' hj rd ?_ (w_T W (w_NR W y)).length 0 (by omega)
    rw [w32_id (x := (y : Int) + 1) (by omega) (by omega), show (y : Int) + 1 = ((y + 1 : Nat) : Int) by omega]
    exact ih (y + 1) M' (by omega) (fr_trans f f') l' w'
theorem ok_far' {L : Nat} {X : Int → Int} {D : Nat} : ∀ a : Int, q_i32 a → q_ok L X (INV L X) (D + 30) 124 241 [.inl a] := by
  intro a _
  refine q_okQ (fun W => faN W a (w_nn W).toNat) id (fun W g => g) (fun W M hl g h => ?_) (fun W M hl g h => ?_)
  · have g1 := g.2.2.2.2.1.1
    exact q_enter (t_124_0 hl (c_124l (d := D + 21) (M0 := M) g (fun M' f w => ⟨rfl, kR_fr hl f, w⟩) (w_nn W).toNat 0 M (by omega) fr_rfl hl h))
  · have g1 := g.2.2.2.2.1.1
    exact q_enter (t_241_0 hl (r_241l (d := D + 23) (M0 := M) g (fun M' f w => ⟨rfl, f, w⟩) (w_nn W).toNat 0 M (by omega) fr_rfl hl h))
end
