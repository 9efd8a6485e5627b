section
/-- how far makings lie apart in a row, all pairs -/
noncomputable def prF (W : qW) (r : Int) (i j : Nat) : Int := cif (i < j ∧ w_mk W i ∧ w_mk W j) (dsV W r i j) 0
noncomputable def prO (W : qW) (r : Int) (n : Nat) : Int := sumN (fun i => sumN (prF W r i) 4) n
theorem prF_rng {W : qW} {r : Int} (g : WG W) (hr : 0 ≤ r ∧ r < w_nr W) (i j : Nat) : 0 ≤ prF W r i j ∧ prF W r i j ≤ 2000000 := by
  unfold prF
  by_cases e : i < j ∧ w_mk W i ∧ w_mk W j
  · rw [cif_pos e]; exact dsV_rng g hr
  · rw [cif_neg e]; omega
theorem sumB {f : Nat → Int} {B : Int} (h : ∀ i, 0 ≤ f i ∧ f i ≤ B) : ∀ n : Nat, 0 ≤ sumN f n ∧ sumN f n ≤ n * B := by
  intro n
  induction n with
  | zero => show (0 : Int) ≤ 0 ∧ (0 : Int) ≤ ((0 : Nat) : Int) * B; rw [show (((0 : Nat) : Int)) = 0 from rfl, Int.zero_mul]; omega
  | succ n ih =>
    have := h n
    show 0 ≤ sumN f n + f n ∧ sumN f n + f n ≤ ((n + 1 : Nat) : Int) * B
    rw [show ((n + 1 : Nat) : Int) = (n : Int) + 1 by omega, Int.add_mul, Int.one_mul]
    omega
theorem prI_rng {W : qW} {r : Int} (g : WG W) (hr : 0 ≤ r ∧ r < w_nr W) (i : Nat) {n : Nat} (hn : n ≤ 4) : 0 ≤ sumN (prF W r i) n ∧ sumN (prF W r i) n ≤ 8000000 := by
  have := sumB (prF_rng g hr i) n
  omega
theorem prO_rng {W : qW} {r : Int} (g : WG W) (hr : 0 ≤ r ∧ r < w_nr W) {n : Nat} (hn : n ≤ 4) : 0 ≤ prO W r n ∧ prO W r n ≤ 32000000 := by
  have := sumB (f := fun i => sumN (prF W r i) 4) (B := 8000000) (fun i => prI_rng g hr i (Nat.le_refl 4)) n
  unfold prO
  omega
theorem prI_z {W : qW} {r : Int} {i : Nat} : ∀ n, n ≤ i + 1 → sumN (prF W r i) n = 0 := by
  intro n
  induction n with
  | zero => intro _; rfl
  | succ n ih =>
    intro h
    show sumN (prF W r i) n + prF W r i n = 0
    rw [ih (by omega)]
    unfold prF
    rw [cif_neg (fun q => by have := q.1; omega)]; rfl
theorem prI_t {W : qW} {r : Int} {i j : Nat} (h : i < j ∧ w_mk W i ∧ w_mk W j) : sumN (prF W r i) (j + 1) = sumN (prF W r i) j + dsV W r i j := by
  show _ + prF W r i j = _; unfold prF; rw [cif_pos h]
theorem prI_f {W : qW} {r : Int} {i j : Nat} (h : ¬ (w_mk W i ∧ w_mk W j)) : sumN (prF W r i) (j + 1) = sumN (prF W r i) j := by
  show _ + prF W r i j = _; unfold prF; rw [cif_neg (fun q => h q.2)]; exact Int.add_zero _
theorem c_143i {d : Nat} {P : Int → qM → Prop} {M : qM} {W : qW} {m r : Int} {i : Nat} {c s : Nat} (hl : q_lay M) (g : WG W) (w : WC W M) (hr : 0 ≤ r ∧ r < w_nr W) (cx : w_ctx W M m r) (rd : w_rdy W M m r) (wt : ∀ k, w_mk W k → C_wt M m k (w_wt W r k) (w_tx W r) (w_T W r).length) (hi : i < 4) (K : q_At q_m143 (q_WP q_Pr (d + 3)) P 4 [(0, .inr (.inr 0)), (1, .inr (.inr m)), (2, .inl (prO W r (i + 1))), (3, .inl (((i + 1 : Nat)) : Int))] [] M c s) : ∀ (n j : Nat), j + n = 4 → i < j → q_At q_m143 (q_WP q_Pr (d + 3)) P 14 [(0, .inr (.inr 0)), (1, .inr (.inr m)), (2, .inl (prO W r i + sumN (prF W r i) j)), (3, .inl (i : Int)), (4, .inl (j : Int))] [] M c s := by
  have mkE : ∀ k : Int, 0 ≤ k → k < 4 → (((0 ≤ k ∧ k < 4) ∧ ¬ q_rf M 14 k = -1) ↔ w_mk W k) := fun k a b => ⟨fun y => ⟨y.1, (C_mk w (by omega)).mp y.2⟩, fun mk => ⟨mk.1, (C_mk w (by omega)).mpr mk.2⟩⟩
  have po := prO_rng g hr (n := i) (by omega)
  intro n
  induction n with
  | zero =>
    intro j h0 hij
    refine t_143_14 (d := d + 2) hl ?_
    rw [w32_id (x := (i : Int) + 1) (by omega) (by omega), show (i : Int) + 1 = ((i + 1 : Nat) : Int) by omega, show j = 4 by omega]
    exact ⟨fun _ => K, fun z => absurd z (by omega)⟩
  | succ n ih =>
    intro j h0 hij
    have nx := ih (j + 1) (by omega) (by omega)
    have pi := prI_rng g hr i (n := j) (by omega)
    have dr := dsV_rng (a := (i : Int)) (b := (j : Int)) g hr
    refine t_143_14 (d := d + 2) hl ?_
    rw [w32_id (x := (j : Int) + 1) (by omega) (by omega), show (j : Int) + 1 = ((j + 1 : Nat) : Int) by omega]
    refine ⟨fun z => absurd z (by omega), fun _ => ⟨fun y => ⟨fun z => ⟨mk0 cx.1.1, ?_⟩, fun z => ?_⟩, fun y => ?_⟩⟩
    · have mi := (mkE i (by omega) (by omega)).mp y
      have mj := (mkE j (by omega) (by omega)).mp z
      refine c_32W (d := d + 1) g hr cx rd (by omega) (by omega) (wt i mi) (wt j mj) ⟨hl, ?_⟩
      rw [w32_id (x := prO W r i + sumN (prF W r i) j + dsV W r i j) (by omega) (by omega)]
      rw [prI_t ⟨hij, mi, mj⟩, ← Int.add_assoc] at nx; exact nx
    · rw [prI_f (fun q => z ((mkE j (by omega) (by omega)).mpr q.2))] at nx; exact nx
    · rw [prI_f (fun q => y ((mkE i (by omega) (by omega)).mpr q.1))] at nx; exact nx
theorem c_143W {d : Nat} {P : Int → qM → Prop} {M : qM} {W : qW} {m r : Int} (hl : q_lay M) (g : WG W) (w : WC W M) (hr : 0 ≤ r ∧ r < w_nr W) (cx : w_ctx W M m r) (rd : w_rdy W M m r) (wt : ∀ k, w_mk W k → C_wt M m k (w_wt W r k) (w_tx W r) (w_T W r).length) (K : P (prO W r 4) M) : q_WP q_Pr (d + 4) 143 [.inr (.inr 0), .inr (.inr m)] M P := by
  have lp : ∀ (n i : Nat), i + n = 4 → q_At q_m143 (q_WP q_Pr (d + 3)) P 4 [(0, .inr (.inr 0)), (1, .inr (.inr m)), (2, .inl (prO W r i)), (3, .inl (i : Int))] [] M 0 0 := by
    intro n
    induction n with
    | zero =>
      intro i h0
      refine t_143_4 hl ⟨fun _ => ?_, fun z => absurd z (by omega)⟩
      rw [show i = 4 by omega]; exact K
    | succ n ih =>
      intro i h0
      refine t_143_4 hl ⟨fun z => absurd z (by omega), fun _ => ?_⟩
      have r := c_143i (d := d) (P := P) (c := 0) (s := 0) hl g w hr cx rd wt (show i < 4 by omega) (ih (i + 1) (by omega)) (4 - (i + 1)) (i + 1) (by omega) (by omega)
      rw [prI_z (i + 1) (Nat.le_refl _), Int.add_zero] at r
      rw [w32_id (x := (i : Int) + 1) (by omega) (by omega), show (i : Int) + 1 = ((i + 1 : Nat) : Int) by omega]
      exact r
  exact q_enter (t_143_0 hl (lp 4 0 (by omega)))
noncomputable def bsN (W : qW) : Nat → Int × Int
  | 0 => (-1, -1)
  | n + 1 => if (bsN W n).2 < prO W n 4 then ((n : Int), prO W n 4) else bsN W n
theorem bsN_t {W : qW} {n : Nat} (h : (bsN W n).2 < prO W n 4) : bsN W (n + 1) = ((n : Int), prO W n 4) := if_pos h
theorem bsN_f {W : qW} {n : Nat} (h : ¬ (bsN W n).2 < prO W n 4) : bsN W (n + 1) = bsN W n := if_neg h
theorem bsN_1 {W : qW} (g : WG W) {n : Nat} (hn : (n : Int) < w_nr W) : 0 ≤ (bsN W (n + 1)).1 := by
  induction n with
  | zero =>
    have := prO_rng g (r := 0) ⟨Int.le_refl 0, hn⟩ (Nat.le_refl 4)
    rw [bsN_t (show (-1 : Int) < prO W 0 4 by omega)]
    exact Int.le_refl 0
  | succ n ih =>
    by_cases e : (bsN W (n + 1)).2 < prO W ((n + 1 : Nat) : Int) 4
    · rw [bsN_t e]; show (0 : Int) ≤ ((n + 1 : Nat) : Int); omega
    · rw [bsN_f e]; exact ih (by omega)
theorem c_127l {d : Nat} {P : Int → qM → Prop} {M0 : qM} {W : qW} {c s : Nat} (g : WG W) (K : ∀ M', fr Zc M0 M' → WC W M' → P (bsN W (w_nr W).toNat).1 M') : ∀ (n y : Nat) (M : qM), (y : Int) + n = w_nr W → fr Zc M0 M → q_lay M → WC W M → q_At q_m127 (q_WP q_Pr (d + 8)) P 16 [(0, .inr (.inr 0)), (1, .inl (bsN W y).1), (2, .inl (bsN W y).2), (3, .inl (y : Int))] [] M c s := by
  intro n
  induction n with
  | zero =>
    intro y M h1 f hl w
    have kk := K M f w
    rw [show (w_nr W).toNat = y by omega] at kk
    refine t_127_16 hl ?_
    rw [w.2.2.1.1]
    exact ⟨fun _ => kk, fun z => absurd z (by omega)⟩
  | succ n ih =>
    intro y M h1 f hl w
    have gn := g.2.2.1.1
    refine t_127_16 hl ?_
    rw [w.2.2.1.1, w32_id (x := (y : Int) + 1) (by omega) (by omega), show (y : Int) + 1 = ((y + 1 : Nat) : Int) by omega]
    refine ⟨fun z => absurd z (by omega), fun _ => c_141W (d := d) hl g w (fun hr M' f' l' w' cx rd wt => ⟨l', fun _ => ?_, fun z => absurd z (by have := q_ml_ge cx.1.1; omega)⟩) (fun hn => absurd ⟨by omega, by omega⟩ hn)⟩
    have nx := ih (y + 1) M' (by omega) (fr_trans f f') l' w'
    refine c_143W (d := d + 4) l' g w' hr cx rd wt ⟨l', fun z => ?_, fun z => ?_⟩
    · rw [bsN_f (by omega)] at nx; exact nx
    · rw [bsN_t z] at nx; exact nx
theorem r_245i {d : Nat} {P : Int → qM → Prop} {M0 : qM} {W : qW} {x1 x2 r : Int} {i : Nat} {c s : Nat} (g : WG W) (hr : 0 ≤ r ∧ r < w_nr W) (hi : i < 4) (K : ∀ M', fr Zr M0 M' → q_lay M' → WR W M' → q_At q_m245 (q_WP q_Pr (d + 8)) P 38 [(0, .inr (.inr 66)), (1, .inl x1), (2, .inl x2), (3, .inl r), (4, .inl (prO W r (i + 1))), (5, .inl (((i + 1 : Nat)) : Int))] [] M' c s) : ∀ (n j : Nat) (M : qM), j + n = 4 → i < j → fr Zr M0 M → q_lay M → WR W M → q_At q_m245 (q_WP q_Pr (d + 8)) P 50 [(0, .inr (.inr 66)), (1, .inl x1), (2, .inl x2), (3, .inl r), (4, .inl (prO W r i + sumN (prF W r i) j)), (5, .inl (i : Int)), (6, .inl (j : Int))] [] M c s := by
  have po := prO_rng g hr (n := i) (by omega)
  intro n
  induction n with
  | zero =>
    intro j M h0 hij f hl w
    refine t_245_50 hl ?_
    rw [w32_id (x := (i : Int) + 1) (by omega) (by omega), show (i : Int) + 1 = ((i + 1 : Nat) : Int) by omega, show j = 4 by omega]
    exact ⟨fun _ => K M f hl w, fun z => absurd z (by omega)⟩
  | succ n ih =>
    intro j M h0 hij f hl w
    have pi := prI_rng g hr i (n := j) (by omega)
    have dr := dsV_rng (a := (i : Int)) (b := (j : Int)) g hr
    refine t_245_50 hl ?_
    rw [w32_id (x := (j : Int) + 1) (by omega) (by omega), show (j : Int) + 1 = ((j + 1 : Nat) : Int) by omega]
    have nx := ih (j + 1) M (by omega) (by omega) f hl w
    refine ⟨fun z => absurd z (by omega), fun _ => ⟨by omega, fun y => ?_, fun y => ⟨by omega, fun z => ?_, fun z => ?_⟩⟩⟩
    · rw [prI_f (fun q => ((R_mk w).mpr q.1).2 y)] at nx; exact nx
    · rw [prI_f (fun q => ((R_mk w).mpr q.2).2 z)] at nx; exact nx
    · have mi := (R_mk w (k := (i : Int))).mp ⟨by omega, y⟩
      have mj := (R_mk w (k := (j : Int))).mp ⟨by omega, z⟩
      refine r_243W (d := d) hl g w hr mi mj (fun M' f' l' w' => ⟨l', ?_⟩)
      have nx' := ih (j + 1) M' (by omega) (by omega) (fr_trans f f') l' w'
      rw [w32_id (x := prO W r i + sumN (prF W r i) j + dsV W r i j) (by omega) (by omega)]
      rw [prI_t ⟨hij, mi, mj⟩, ← Int.add_assoc] at nx'; exact nx'
theorem r_245o {d : Nat} {P : Int → qM → Prop} {M0 : qM} {W : qW} {x1 x2 r : Int} {c s : Nat} (g : WG W) (hr : 0 ≤ r ∧ r < w_nr W) (K : ∀ M', fr Zr M0 M' → q_lay M' → WR W M' → q_At q_m245 (q_WP q_Pr (d + 8)) P 38 [(0, .inr (.inr 66)), (1, .inl x1), (2, .inl x2), (3, .inl r), (4, .inl (prO W r 4)), (5, .inl (4 : Int))] [] M' c s) : ∀ (n i : Nat) (M : qM), i + n = 4 → fr Zr M0 M → q_lay M → WR W M → q_At q_m245 (q_WP q_Pr (d + 8)) P 38 [(0, .inr (.inr 66)), (1, .inl x1), (2, .inl x2), (3, .inl r), (4, .inl (prO W r i)), (5, .inl (i : Int))] [] M c s := by
  intro n
  induction n with
  | zero =>
    intro i M h0 f hl w
    rw [show i = 4 by omega]; exact K M f hl w
  | succ n ih =>
    intro i M h0 f hl w
    refine t_245_38 hl ⟨fun z => absurd z (by omega), fun _ => ?_⟩
    have r := r_245i (d := d) (P := P) (M0 := M) (x1 := x1) (x2 := x2) (c := c) (s := s) g hr (show i < 4 by omega) (fun M' f' l' w' => ih (i + 1) M' (by omega) (fr_trans f f') l' w') (4 - (i + 1)) (i + 1) M (by omega) (by omega) fr_rfl hl w
    rw [prI_z (i + 1) (Nat.le_refl _), Int.add_zero] at r
    rw [w32_id (x := (i : Int) + 1) (by omega) (by omega), show (i : Int) + 1 = ((i + 1 : Nat) : Int) by omega]
    exact r
theorem r_245l {d : Nat} {P : Int → qM → Prop} {M0 : qM} {W : qW} {c s : Nat} (g : WG W) (K : ∀ M', fr Zr M0 M' → WR W M' → P (bsN W (w_nr W).toNat).1 M') : ∀ (n y : Nat) (M : qM) (x2 : Int), (y : Int) + n = w_nr W → (y ≠ 0 → x2 = (bsN W y).2) → fr Zr M0 M → q_lay M → WR W M → q_At q_m245 (q_WP q_Pr (d + 8)) P 24 [(0, .inr (.inr 66)), (1, .inl (bsN W y).1), (2, .inl x2), (3, .inl (y : Int))] [] M c s := by
  intro n
  induction n with
  | zero =>
    intro y M x2 h1 hx f hl w
    have kk := K M f w
    rw [show (w_nr W).toNat = y by omega] at kk
    refine t_245_24 hl ?_
    rw [w.2.2.1.1]
    exact ⟨fun _ => kk, fun z => absurd z (by omega)⟩
  | succ n ih =>
    intro y M x2 h1 hx f hl w
    have gn := g.2.2.1.1
    have hr : 0 ≤ (y : Int) ∧ (y : Int) < w_nr W := by omega
    have po := prO_rng g hr (Nat.le_refl 4)
    refine t_245_24 hl ?_
    rw [w.2.2.1.1]
    refine ⟨fun z => absurd z (by omega), fun _ => ?_⟩
    refine r_245o (d := d) (M0 := M) g hr (fun M' f' l' w' => ?_) 4 0 M (by omega) fr_rfl hl w
    have nx := fun x2 hx => ih (y + 1) M' x2 (by omega) hx (fr_trans f f') l' w'
    refine t_245_38 l' ?_
    rw [w32_id (x := (y : Int) + 1) (by omega) (by omega), show (y : Int) + 1 = ((y + 1 : Nat) : Int) by omega]
    refine ⟨fun _ => ⟨fun z => ?_, fun z => ⟨fun u => ?_, fun u => ?_⟩⟩, fun z => absurd z (by decide)⟩
    · have y0 : y = 0 := by
        cases y with
        | zero => rfl
        | succ k => have := bsN_1 g (n := k) (by omega); omega
      have e : (bsN W y).2 < prO W y 4 := by rw [y0]; rw [y0] at po; show (-1 : Int) < _; omega
      have nx' := nx (prO W y 4) (fun _ => by rw [bsN_t e])
      rw [bsN_t e] at nx'; exact nx'
    · have yn : y ≠ 0 := fun q => z (by rw [q]; rfl)
      have e : (bsN W y).2 < prO W y 4 := by rw [← hx yn]; exact u
      have nx' := nx (prO W y 4) (fun _ => by rw [bsN_t e])
      rw [bsN_t e] at nx'; exact nx'
    · have yn : y ≠ 0 := fun q => z (by rw [q]; rfl)
      have e : ¬ (bsN W y).2 < prO W y 4 := by rw [← hx yn]; omega
      have nx' := nx x2 (fun _ => by rw [bsN_f e]; exact hx yn)
      rw [bsN_f e] at nx'; exact nx'
theorem ok_next' {L : Nat} {X : Int → Int} {D : Nat} : q_ok L X (INV L X) (D + 30) 127 245 [] := by
  refine q_okQ (fun W => cif (2 ≤ cntH (w_H W)) (bsN W (w_nr W).toNat).1 (-1)) id (fun W g => g) (fun W M hl g h => ?_) (fun W M hl g h => ?_)
  · have gn := g.2.2.1.1
    refine q_enter (t_127_0 hl (c_137 (d := D + 28) hl (C_SS_H h.2.2.2.1) ⟨hl, fun z => ?_, fun z => ⟨(cif_neg (by omega)).symm, kR_rfl hl, h⟩⟩))
    rw [cif_pos z]
    exact c_127l (d := D + 21) (M0 := M) g (fun M' f w => ⟨rfl, kR_fr hl f, w⟩) (w_nr W).toNat 0 M (by omega) fr_rfl hl h
  · have gn := g.2.2.1.1
    refine q_enter (t_245_0 hl ?_)
    rw [h.2.2.1.1]
    refine ⟨fun z => ⟨?_, fr_rfl, h⟩, fun z => ?_⟩
    · rw [z]
      by_cases e : 2 ≤ cntH (w_H W)
      · rw [cif_pos e]; rfl
      · rw [cif_neg e]
    · refine q_enter (d := D + 28) (t_166_0 hl ⟨⟨fun e => absurd e (by decide), fun e => absurd e (by decide), fun _ => ?_, fun e => absurd e (by decide), fun e => absurd e (by decide), fun e => absurd e (by decide), trivial⟩, fun e => absurd e (by decide)⟩)
      refine r_166c hl (R_SS_H h.2.2.2.1) ⟨hl, fun y => ?_, fun y => ⟨(cif_neg (by omega)).symm, fr_rfl, h⟩⟩
      rw [cif_pos y]
      exact r_245l (d := D + 21) (M0 := M) g (fun M' f w => ⟨rfl, f, w⟩) (w_nr W).toNat 0 M 0 (by omega) (fun q => absurd rfl q) fr_rfl hl h
end
