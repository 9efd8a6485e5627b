section
def eqV (a b : Int) : Int := if a = b then 1 else 0
def frQ (W : qW) (r : Int) (sd : List Int) (x : Int) (i : Nat) : Prop := w_tx W r i = sd ∧ (w_t W r i).1 = 4 ∧ eqV (w_WS W (li (w_RL W r) (w_t W r i).2.1)) (w_WS W (li (w_RL W r) (w_t W r i).2.2)) = x
theorem k4_rng {W : qW} {r : Int} (g : WG W) (hr : 0 ≤ r ∧ r < w_nr W) {i : Nat} (hi : i < (w_T W r).length) (h : (w_t W r i).1 = 4) : (0 ≤ (w_t W r i).2.1 ∧ (w_t W r i).2.1 < (w_RL W r).length) ∧ (0 ≤ (w_t W r i).2.2 ∧ (w_t W r i).2.2 < (w_RL W r).length) := by
  have ok := (tk_all g hr).1 _ (getT_mem hi)
  have h' : ((w_T W r).getD i (0, 0, 0)).1 = 4 := h
  unfold okT at ok
  rcases ok with q | q | q | q
  · omega
  · exact ⟨q.2.1, q.2.2.1⟩
  · omega
  · omega
theorem c_31l {d : Nat} {P : Int → qM → Prop} {M : qM} {W : qW} {m r v x : Int} {sd : List Int} {c s : Nat} (g : WG W) (hr : 0 ≤ r ∧ r < w_nr W) (cx : w_ctx W M m r) (rd : w_rdy W M m r) (hf : isF (w_tx W r) (w_T W r).length sd v) (K1 : (∃ i, i < (w_T W r).length ∧ frQ W r sd x i) → P 1 M) (K0 : ¬ (∃ i, i < (w_T W r).length ∧ frQ W r sd x i) → P 0 M) : ∀ (n i : Nat), i + n = (w_T W r).length → (∀ j, j < i → ¬ frQ W r sd x j) → q_At q_m31 (q_WP q_Pr d) P 9 [(0, .inr (.inr m)), (2, .inl x), (3, .inl v), (4, .inl (i : Int))] [] M c s := by
  have hm := cx.1.1
  have tk := tk_all g hr
  intro n
  induction n with
  | zero =>
    intro i h0 hn
    refine t_31_9 hm ?_
    rw [show q_nm M m 3 = (w_T W r).length from rd.1.1]
    exact ⟨fun _ => K0 (fun ⟨j, a, b⟩ => hn j (by omega) b), fun z => absurd z (by omega)⟩
  | succ n ih =>
    intro i h0 hn
    have hin : i < (w_T W r).length := by omega
    have at1 := rd.1.2 i hin
    have gn := g.2.1.1
    have gl := g.2.2.1.2 r hr.1 hr.2
    have nx : ¬ frQ W r sd x i → q_At q_m31 (q_WP q_Pr d) P 9 [(0, .inr (.inr m)), (2, .inl x), (3, .inl v), (4, .inl ((i + 1 : Nat) : Int))] [] M c s := fun q => ih (i + 1) (by omega) (fun j hj => by
      by_cases e : j = i
      · rw [e]; exact q
      · exact hn j (by omega))
    refine t_31_9 hm ?_
    rw [show q_nm M m 3 = (w_T W r).length from rd.1.1, show q_nm M (m + 4) i = (w_t W r i).1 from at1.1, show q_nm M (m + 5) i = (w_t W r i).2.1 from at1.2.1, show q_nm M (m + 6) i = (w_t W r i).2.2 from at1.2.2, w32_id (x := (i : Int) + 1) (by omega) (by omega), show (i : Int) + 1 = ((i + 1 : Nat) : Int) by omega]
    refine ⟨fun z => absurd z (by omega), fun _ => ⟨by omega, fun z => nx (fun q => z ((lead_W rd hf hin).mpr q.1)), fun z => ⟨by omega, fun y => nx (fun q => y q.2.1), fun y => ?_⟩⟩⟩
    have k4 := k4_rng g hr hin y
    have l1 := li_rng gl k4.1.1 k4.1.2
    have l2 := li_rng gl k4.2.1 k4.2.2
    rw [show q_nm M (m + 1) (w_t W r i).2.1 = li (w_RL W r) (w_t W r i).2.1 from q_L_get0 cx.1.2 k4.1.1 k4.1.2, show q_nm M (m + 1) (w_t W r i).2.2 = li (w_RL W r) (w_t W r i).2.2 from q_L_get0 cx.1.2 k4.2.1 k4.2.2, (cx.2.1.2 _ l1.1 l1.2).2.1, (cx.2.1.2 _ l2.1 l2.2).2.1]
    have fq : frQ W r sd x i ↔ eqV (w_WS W (li (w_RL W r) (w_t W r i).2.1)) (w_WS W (li (w_RL W r) (w_t W r i).2.2)) = x := ⟨fun q => q.2.2, fun q => ⟨(lead_W rd hf hin).mp z, y, q⟩⟩
    unfold eqV at fq
    refine ⟨by omega, k4.1, by omega, by omega, k4.2, by omega, fun e => ⟨fun q => nx ?_, fun q => K1 ⟨i, hin, fq.mpr ?_⟩⟩, fun e => ⟨fun q => nx ?_, fun q => K1 ⟨i, hin, fq.mpr ?_⟩⟩⟩
    · rw [fq, if_neg e]; exact q
    · rw [if_neg e]; exact q
    · rw [fq, if_pos e]; exact q
    · rw [if_pos e]; exact q
def fmN (W : qW) (x : Int) (j : Nat) : Prop := ∃ i, i < (w_T W (w_NR W j)).length ∧ frQ W (w_NR W j) (w_NL W j) x i
theorem c_125l {d : Nat} {P : Int → qM → Prop} {M0 : qM} {W : qW} {x : Int} {c s : Nat} (g : WG W) (K : ∀ M', fr Zc M0 M' → WC W M' → P (cN (fmN W x) (w_nn W).toNat) M') : ∀ (n y : Nat) (M : qM), (y : Int) + n = w_nn W → fr Zc M0 M → q_lay M → WC W M → q_At q_m125 (q_WP q_Pr (d + 8)) P 4 [(0, .inr (.inr 0)), (1, .inl x), (2, .inl (cN (fmN W x) y)), (3, .inl (y : Int))] [] M c s := by
  intro n
  induction n with
  | zero =>
    intro y M h1 f hl w
    have kk := K M f w
    rw [show (w_nn W).toNat = y by omega] at kk
    refine t_125_4 hl ?_
    rw [w.2.2.2.2.2.2.1.1]
    exact ⟨fun _ => kk, fun z => absurd z (by omega)⟩
  | succ n ih =>
    intro y M h1 f hl w
    have g1 := g.2.2.2.2.1.1
    have hj : 0 ≤ (y : Int) ∧ (y : Int) < w_nn W := by omega
    have hr := NR_ok g hj
    have cr := cN_rng (p := fmN W x) y
    refine t_125_4 hl ?_
    rw [w.2.2.2.2.2.2.1.1, w32_id (x := (y : Int) + 1) (by omega) (by omega), show (y : Int) + 1 = ((y + 1 : Nat) : Int) by omega, (w.2.2.2.2.2.2.1.2 y hj.1 hj.2).1, w32_id (x := cN (fmN W x) y + 1) (by omega) (by omega)]
    refine ⟨fun z => absurd z (by omega), fun _ => ⟨by omega, c_139W (d := d + 2) hl g w (fun _ M' f' l' w' er cx rd e2 => ⟨l', fun z => absurd z (by have := q_ml_ge cx.1.1; omega), fun _ => ⟨by omega, mk0 cx.1.1, ?_⟩⟩) (fun hn => absurd hr hn)⟩⟩
    have nx := ih (y + 1) M' (by omega) (fr_trans f f') l' w'
    have hm := cx.1.1
    refine q_enter (d := d + 7) (t_31_0 hm (c_20W (d := d + 4) cx rd (spkN l' g w' hj) (fun v hf => ⟨hm, ?_⟩)))
    refine c_31l g hr cx rd hf (fun q => ⟨l', fun z => absurd z (by decide), fun _ => ?_⟩) (fun q => ⟨l', fun _ => ?_, fun z => absurd rfl z⟩) (w_T W (w_NR W y)).length 0 (by omega) (fun j hj => absurd hj (Nat.not_lt_zero j))
    · rw [cN_t (show fmN W x y from q)] at nx; exact nx
    · rw [cN_f (show ¬ fmN W x y from q)] at nx; exact nx
theorem r_242i {d : Nat} {P : Int → qM → Prop} {M : qM} {W : qW} {k x : Int} {y : Nat} {c s : Nat} (hl : q_lay M) (g : WG W) (w : WR W M) (hj : 0 ≤ (y : Int) ∧ (y : Int) < w_nn W) (rd : w_rd W M (w_NR W y)) (hx : 0 ≤ x ∧ x ≤ 30) (K1 : fmN W k y → q_At q_m242 (q_WP q_Pr (d + 2)) P 4 [(0, .inr (.inr 66)), (1, .inl k), (2, .inl (x + 1)), (3, .inl ((y : Int) + 1))] [] M c s) (K0 : ¬ fmN W k y → q_At q_m242 (q_WP q_Pr (d + 2)) P 4 [(0, .inr (.inr 66)), (1, .inl k), (2, .inl x), (3, .inl ((y : Int) + 1))] [] M c s) : ∀ (n i : Nat), i + n = (w_T W (w_NR W y)).length → (∀ j : Nat, j < i → ¬ frQ W (w_NR W y) (w_NL W y) k j) → q_At q_m242 (q_WP q_Pr (d + 2)) P 28 [(0, .inr (.inr 66)), (1, .inl k), (2, .inl x), (3, .inl (y : Int)), (4, .inl (0 : Int)), (5, .inl (i : Int))] [] M c s := by
  have g1 := g.2.2.2.2.1.1
  have hr := NR_ok g hj
  have tk := tk_all g hr
  have e55 : q_nm M 66 55 = (w_T W (w_NR W y)).length := rd.2.2.2.1
  intro n
  induction n with
  | zero =>
    intro i h0 hn
    refine t_242_28 (d := d + 1) hl ?_
    rw [e55, w32_id (x := (y : Int) + 1) (by omega) (by omega)]
    exact ⟨fun _ => ⟨fun _ => K0 (fun ⟨j, a, b⟩ => hn j (by omega) b), fun z => absurd rfl z⟩, fun z => absurd z (by omega)⟩
  | succ n ih =>
    intro i h0 hn
    have hin : i < (w_T W (w_NR W y)).length := by omega
    have ta := rd.2.2.2.2 i hin
    have gn := g.2.1.1
    have gr := g.2.2.1.1
    have gl := g.2.2.1.2 _ hr.1 hr.2
    have g6 := gl.1
    have nx : ¬ frQ W (w_NR W y) (w_NL W y) k i → q_At q_m242 (q_WP q_Pr (d + 2)) P 123 [(0, .inr (.inr 66)), (1, .inl k), (2, .inl x), (3, .inl (y : Int)), (5, .inl (i : Int))] [] M c s := fun q => t_242_123 hl (t_242_124 hl (by
      rw [w32_id (x := (i : Int) + 1) (by omega) (by omega), show (i : Int) + 1 = ((i + 1 : Nat) : Int) by omega]
      exact ih (i + 1) (by omega) (fun j hj => by
        by_cases e : j = i
        · rw [e]; exact q
        · exact hn j (by omega))))
    have ye : frQ W (w_NR W y) (w_NL W y) k i → q_At q_m242 (q_WP q_Pr (d + 2)) P 124 [(0, .inr (.inr 66)), (1, .inl k), (2, .inl x), (3, .inl (y : Int)), (5, .inl (i : Int))] [.inl (1 : Int)] M c s := fun q => t_242_124 hl (by
      rw [w32_id (x := (i : Int) + 1) (by omega) (by omega), show (i : Int) + 1 = ((i + 1 : Nat) : Int) by omega]
      have kk := K1 ⟨i, hin, q⟩
      refine t_242_28 (d := d + 1) hl ?_
      rw [e55, w32_id (x := (y : Int) + 1) (by omega) (by omega), w32_id (x := x + 1) (by omega) (by omega)]
      exact ⟨fun _ => ⟨fun q => absurd q (by decide), fun _ => kk⟩, fun _ => ⟨fun _ => ⟨fun q => absurd q (by decide), fun _ => kk⟩, fun q => absurd q (by decide)⟩⟩)
    refine t_242_28 (d := d + 1) hl ?_
    rw [e55, show q_nm M 108 i = (w_t W (w_NR W y) i).1 from ta.1.1, show q_nm M 109 i = (w_t W (w_NR W y) i).2.1 from ta.1.2.1, show q_nm M 110 i = (w_t W (w_NR W y) i).2.2 from ta.1.2.2, (w.2.2.2.2.2.2.1.2 y hj.1 hj.2).1]
    refine ⟨fun z => absurd z (by omega), fun _ => ⟨fun z => absurd rfl z, fun _ => ⟨by omega, fun z => nx (fun q => z q.2.1), fun z => ?_⟩⟩⟩
    have k4 := k4_rng g hr hin z
    have l1 := li_rng gl k4.1.1 k4.1.2
    have l2 := li_rng gl k4.2.1 k4.2.2
    have row := w.2.2.1.2.1 _ hr.1 hr.2
    rw [show q_nm M 99 (6 * w_NR W y + (w_t W (w_NR W y) i).2.1) = li (w_RL W (w_NR W y)) (w_t W (w_NR W y) i).2.1 from q_L_get row.2.2 k4.1.1 k4.1.2, show q_nm M 99 (6 * w_NR W y + (w_t W (w_NR W y) i).2.2) = li (w_RL W (w_NR W y)) (w_t W (w_NR W y) i).2.2 from q_L_get row.2.2 k4.2.1 k4.2.2, (w.2.1.2 _ l1.1 l1.2).2.1, (w.2.1.2 _ l2.1 l2.2).2.1]
    have fq : w_tx W (w_NR W y) i = w_NL W y → (frQ W (w_NR W y) (w_NL W y) k i ↔ eqV (w_WS W (li (w_RL W (w_NR W y)) (w_t W (w_NR W y) i).2.1)) (w_WS W (li (w_RL W (w_NR W y)) (w_t W (w_NR W y) i).2.2)) = k) := fun q0 => ⟨fun q => q.2.2, fun q => ⟨q0, z, q⟩⟩
    refine ⟨by omega, by omega, ⟨by omega, k4.1.1, by omega⟩, by omega, by omega, by omega, ⟨by omega, k4.2.1, by omega⟩, by omega, fun e => ⟨fun q => nx (fun f => ?_), fun q => ?_⟩, fun e => ⟨fun q => nx (fun f => ?_), fun q => ?_⟩⟩
    · have := f.2.2; unfold eqV at this; rw [if_neg e] at this; exact q this
    · refine r_236W hl g w hr rd hin hj (fun v => ⟨hl, fun q => absurd q (by decide), fun _ => ye ((fq v).mpr (by unfold eqV; rw [if_neg e]; exact q))⟩) (fun v => ⟨hl, fun _ => nx (fun f => v f.1), fun q => absurd rfl q⟩)
    · have := f.2.2; unfold eqV at this; rw [if_pos e] at this; exact q this
    · refine r_236W hl g w hr rd hin hj (fun v => ⟨hl, fun q => absurd q (by decide), fun _ => ye ((fq v).mpr (by unfold eqV; rw [if_pos e]; exact q))⟩) (fun v => ⟨hl, fun _ => nx (fun f => v f.1), fun q => absurd rfl q⟩)
theorem r_242l {d : Nat} {P : Int → qM → Prop} {M0 : qM} {W : qW} {k : Int} {c s : Nat} (g : WG W) (K : ∀ M', fr Zr M0 M' → WR W M' → P (cN (fmN W k) (w_nn W).toNat) M') : ∀ (n y : Nat) (M : qM), (y : Int) + n = w_nn W → fr Zr M0 M → q_lay M → WR W M → q_At q_m242 (q_WP q_Pr (d + 6)) P 4 [(0, .inr (.inr 66)), (1, .inl k), (2, .inl (cN (fmN W k) y)), (3, .inl (y : Int))] [] M c s := by
  intro n
  induction n with
  | zero =>
    intro y M h1 f hl w
    have kk := K M f w
    rw [show (w_nn W).toNat = y by omega] at kk
    refine t_242_4 hl ?_
    rw [w.2.2.2.2.2.2.1.1]
    exact ⟨fun _ => kk, fun z => absurd z (by omega)⟩
  | succ n ih =>
    intro y M h1 f hl w
    have g1 := g.2.2.2.2.1.1
    have hj : 0 ≤ (y : Int) ∧ (y : Int) < w_nn W := by omega
    have hr := NR_ok g hj
    have cr := cN_rng (p := fmN W k) y
    refine t_242_4 hl ?_
    rw [w.2.2.2.2.2.2.1.1, (w.2.2.2.2.2.2.1.2 y hj.1 hj.2).1]
    refine ⟨fun z => absurd z (by omega), fun _ => ⟨by omega, r_201W (d := d) hl g w hr (fun M' f' l' w' rd => ⟨l', ?_⟩)⟩⟩
    have nx := ih (y + 1) M' (by omega) (fr_trans f f') l' w'
    refine r_242i (d := d + 4) l' g w' hj rd (by omega) (fun q => ?_) (fun q => ?_) (w_T W (w_NR W y)).length 0 (by omega) (fun j hj => absurd hj (Nat.not_lt_zero j))
    · rw [cN_t q] at nx; rw [show (y : Int) + 1 = ((y + 1 : Nat) : Int) by omega]; exact nx
    · rw [cN_f q] at nx; rw [show (y : Int) + 1 = ((y + 1 : Nat) : Int) by omega]; exact nx
theorem ok_frame' {L : Nat} {X : Int → Int} {D : Nat} : ∀ a : Int, q_i32 a → q_ok L X (INV L X) (D + 30) 125 242 [.inl a] := by
  intro a _
  refine q_okQ (fun W => cN (fmN W a) (w_nn W).toNat) id (fun W g => g) (fun W M hl g h => ?_) (fun W M hl g h => ?_)
  · have g1 := g.2.2.2.2.1.1
    exact q_enter (t_125_0 hl (c_125l (d := D + 21) (M0 := M) g (fun M' f w => ⟨rfl, kR_fr hl f, w⟩) (w_nn W).toNat 0 M (by omega) fr_rfl hl h))
  · have g1 := g.2.2.2.2.1.1
    exact q_enter (t_242_0 hl (r_242l (d := D + 23) (M0 := M) g (fun M' f w => ⟨rfl, f, w⟩) (w_nn W).toNat 0 M (by omega) fr_rfl hl h))
end
