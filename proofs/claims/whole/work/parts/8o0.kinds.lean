section
def knN (W : qW) (k : Int) (j : Nat) : Prop := ∃ i : Nat, i < (w_T W (w_NR W j)).length ∧ (w_t W (w_NR W j) i).1 = k ∧ w_tx W (w_NR W j) i = w_NL W j
theorem c_123l {d : Nat} {P : Int → qM → Prop} {M0 : qM} {W : qW} {k : Int} {c s : Nat} (g : WG W) (hk : 0 ≤ k ∧ k ≤ 8) (K : ∀ M', fr Zc M0 M' → WC W M' → P (cN (knN W k) (w_nn W).toNat) M') : ∀ (n y : Nat) (M : qM), (y : Int) + n = w_nn W → fr Zc M0 M → q_lay M → WC W M → q_At q_m123 (q_WP q_Pr (d + 8)) P 13 [(0, .inr (.inr 0)), (1, .inl k), (2, .inl (cN (knN W k) y)), (3, .inl (y : Int))] [] M c s := by
  intro n
  induction n with
  | zero =>
    intro y M h1 f hl w
    have kk := K M f w
    rw [show (w_nn W).toNat = y by omega] at kk
    refine t_123_13 hl ?_
    rw [w.2.2.2.2.2.2.1.1]
    exact ⟨fun _ => kk, fun z => absurd z (by omega)⟩
  | succ n ih =>
    intro y M h1 f hl w
    have g1 := g.2.2.2.2.1.1
    have hj : 0 ≤ (y : Int) ∧ (y : Int) < w_nn W := by omega
    have hr := NR_ok g hj
    have cr := cN_rng (p := knN W k) y
    refine t_123_13 hl ?_
    rw [w.2.2.2.2.2.2.1.1, w32_id (x := (y : Int) + 1) (by omega) (by omega), show (y : Int) + 1 = ((y + 1 : Nat) : Int) by omega, (w.2.2.2.2.2.2.1.2 y hj.1 hj.2).1, w32_id (x := cN (knN W k) y + 1) (by omega) (by omega)]
    refine ⟨fun z => absurd z (by omega), fun _ => ⟨by omega, c_139W (d := d + 2) hl g w (fun _ M' f' l' w' er cx rd e2 => ⟨l', fun z => absurd z (by have := q_ml_ge cx.1.1; omega), fun _ => ⟨by omega, mk0 cx.1.1, ?_⟩⟩) (fun hn => absurd hr hn)⟩⟩
    have nx := ih (y + 1) M' (by omega) (fr_trans f f') l' w'
    refine c_20W (d := d + 5) cx rd (spkN l' g w' hj) (fun v hf => ⟨l', mk0 cx.1.1, c_21W (d := d + 7) g hr cx rd hf ⟨l', fun z => ?_, fun z => ?_⟩⟩)
    · rw [cN_f (fun ⟨i, a, b, e⟩ => by have := (cN_pos (p := kdP W (w_NR W y) (w_NL W y) k) (w_T W (w_NR W y)).length).mpr ⟨i, a, e, Or.inr b⟩; omega)] at nx; exact nx
    · obtain ⟨i, a, b⟩ := (cN_pos _).mp z
      rw [cN_t (show knN W k y from ⟨i, a, b.2.resolve_left (by omega), b.1⟩)] at nx; exact nx
theorem r_240i {d : Nat} {P : Int → qM → Prop} {M : qM} {W : qW} {k x : Int} {y : Nat} {c s : Nat} (hl : q_lay M) (g : WG W) (w : WR W M) (hj : 0 ≤ (y : Int) ∧ (y : Int) < w_nn W) (rd : w_rd W M (w_NR W y)) (hx : 0 ≤ x ∧ x ≤ 30) (K1 : knN W k y → q_At q_m240 (q_WP q_Pr (d + 2)) P 14 [(0, .inr (.inr 66)), (1, .inl k), (2, .inl (x + 1)), (3, .inl ((y : Int) + 1))] [] M c s) (K0 : ¬ knN W k y → q_At q_m240 (q_WP q_Pr (d + 2)) P 14 [(0, .inr (.inr 66)), (1, .inl k), (2, .inl x), (3, .inl ((y : Int) + 1))] [] M c s) : ∀ (n i : Nat), i + n = (w_T W (w_NR W y)).length → (∀ j : Nat, j < i → ¬ ((w_t W (w_NR W y) j).1 = k ∧ w_tx W (w_NR W y) j = w_NL W y)) → q_At q_m240 (q_WP q_Pr (d + 2)) P 38 [(0, .inr (.inr 66)), (1, .inl k), (2, .inl x), (3, .inl (y : Int)), (4, .inl (0 : Int)), (5, .inl (i : Int))] [] M c s := by
  have g1 := g.2.2.2.2.1.1
  have hr := NR_ok g hj
  have tk := tk_all g hr
  have e55 : q_nm M 66 55 = (w_T W (w_NR W y)).length := rd.2.2.2.1
  intro n
  induction n with
  | zero =>
    intro i h0 hn
    refine t_240_38 hl ?_
    rw [e55, w32_id (x := (y : Int) + 1) (by omega) (by omega)]
    exact ⟨fun _ => ⟨fun _ => K0 (fun ⟨j, a, b⟩ => hn j (by omega) b), fun z => absurd rfl z⟩, fun z => absurd z (by omega)⟩
  | succ n ih =>
    intro i h0 hn
    have hin : i < (w_T W (w_NR W y)).length := by omega
    have t1 := rd.2.2.2.2 i hin
    have nx : ¬ ((w_t W (w_NR W y) i).1 = k ∧ w_tx W (w_NR W y) i = w_NL W y) → q_At q_m240 (q_WP q_Pr (d + 2)) P 38 [(0, .inr (.inr 66)), (1, .inl k), (2, .inl x), (3, .inl (y : Int)), (4, .inl (0 : Int)), (5, .inl ((i + 1 : Nat) : Int))] [] M c s := fun q => ih (i + 1) (by omega) (fun j hj => by
      by_cases e : j = i
      · rw [e]; exact q
      · exact hn j (by omega))
    refine t_240_38 hl ?_
    rw [e55, show q_nm M 108 i = (w_t W (w_NR W y) i).1 from t1.1.1, w32_id (x := (i : Int) + 1) (by omega) (by omega), show (i : Int) + 1 = ((i + 1 : Nat) : Int) by omega]
    refine ⟨fun z => absurd z (by omega), fun _ => ⟨fun z => absurd rfl z, fun _ => ⟨by omega, fun z => nx (fun q => z q.1), fun z => ?_⟩⟩⟩
    refine r_236W hl g w hr rd hin hj (fun e => ⟨hl, fun q => absurd q (by decide), fun _ => ?_⟩) (fun e => ⟨hl, fun _ => nx (fun q => e q.2), fun q => absurd rfl q⟩)
    have kk := K1 ⟨i, hin, z, e⟩
    refine t_240_38 hl ?_
    rw [e55, w32_id (x := (y : Int) + 1) (by omega) (by omega), w32_id (x := x + 1) (by omega) (by omega)]
    exact ⟨fun _ => ⟨fun q => absurd q (by decide), fun _ => kk⟩, fun _ => ⟨fun _ => ⟨fun q => absurd q (by decide), fun _ => kk⟩, fun q => absurd q (by decide)⟩⟩
theorem r_240l {d : Nat} {P : Int → qM → Prop} {M0 : qM} {W : qW} {k : Int} {c s : Nat} (g : WG W) (K : ∀ M', fr Zr M0 M' → WR W M' → P (cN (knN W k) (w_nn W).toNat) M') : ∀ (n y : Nat) (M : qM), (y : Int) + n = w_nn W → fr Zr M0 M → q_lay M → WR W M → q_At q_m240 (q_WP q_Pr (d + 6)) P 14 [(0, .inr (.inr 66)), (1, .inl k), (2, .inl (cN (knN W k) y)), (3, .inl (y : Int))] [] M c s := by
  intro n
  induction n with
  | zero =>
    intro y M h1 f hl w
    have kk := K M f w
    rw [show (w_nn W).toNat = y by omega] at kk
    refine t_240_14 hl ?_
    rw [w.2.2.2.2.2.2.1.1]
    exact ⟨fun _ => kk, fun z => absurd z (by omega)⟩
  | succ n ih =>
    intro y M h1 f hl w
    have g1 := g.2.2.2.2.1.1
    have hj : 0 ≤ (y : Int) ∧ (y : Int) < w_nn W := by omega
    have hr := NR_ok g hj
    have cr := cN_rng (p := knN W k) y
    refine t_240_14 hl ?_
    rw [w.2.2.2.2.2.2.1.1, (w.2.2.2.2.2.2.1.2 y hj.1 hj.2).1]
    refine ⟨fun z => absurd z (by omega), fun _ => ⟨by omega, r_201W (d := d) hl g w hr (fun M' f' l' w' rd => ⟨l', ?_⟩)⟩⟩
    have nx := ih (y + 1) M' (by omega) (fr_trans f f') l' w'
    refine r_240i (d := d + 4) l' g w' hj rd (by omega) (fun q => ?_) (fun q => ?_) (w_T W (w_NR W y)).length 0 (by omega) (fun j hj => absurd hj (Nat.not_lt_zero j))
    · rw [cN_t q] at nx; rw [show (y : Int) + 1 = ((y + 1 : Nat) : Int) by omega]; exact nx
    · rw [cN_f q] at nx; rw [show (y : Int) + 1 = ((y + 1 : Nat) : Int) by omega]; exact nx
theorem ok_kinds' {L : Nat} {X : Int → Int} {D : Nat} : ∀ a : Int, q_i32 a → q_ok L X (INV L X) (D + 30) 123 240 [.inl a] := by
  intro a _
  refine q_okQ (fun W => cif (0 ≤ a ∧ a ≤ 8) (cN (knN W a) (w_nn W).toNat) (-1)) id (fun W g => g) (fun W M hl g h => ?_) (fun W M hl g h => ?_)
  · have g1 := g.2.2.2.2.1.1
    refine q_enter (t_123_0 (d := D + 28) hl ⟨fun y => ?_, fun y => ⟨(cif_neg y).symm, kR_rfl hl, h⟩⟩)
    rw [cif_pos y]
    exact c_123l (d := D + 21) (M0 := M) g y (fun M' f w => ⟨rfl, kR_fr hl f, w⟩) (w_nn W).toNat 0 M (by omega) fr_rfl hl h
  · have g1 := g.2.2.2.2.1.1
    refine q_enter (t_240_0 (d := D + 27) hl ⟨fun y => ?_, fun y => ⟨(cif_neg y).symm, fr_rfl, h⟩⟩)
    rw [cif_pos y]
    exact r_240l (d := D + 23) (M0 := M) g (fun M' f w => ⟨rfl, f, w⟩) (w_nn W).toNat 0 M (by omega) fr_rfl hl h
end
