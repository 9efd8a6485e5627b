section
theorem q_or_idem (x y : Int) : q_or (q_or x y) y = q_or x y := by
  unfold q_or
  rw [Int32.ofInt_toInt, Int32.or_assoc, Int32.or_self]
noncomputable def msk (p : Nat → Prop) : Nat → Int
  | 0 => 0
  | n + 1 => cif (p n) (q_or (msk p n) (q_shl 1 (n : Int))) (msk p n)
theorem msk_t {p : Nat → Prop} {n : Nat} (h : p n) : msk p (n + 1) = q_or (msk p n) (q_shl 1 (n : Int)) := cif_pos h
theorem msk_f {p : Nat → Prop} {n : Nat} (h : ¬ p n) : msk p (n + 1) = msk p n := cif_neg h
def mtP (W : qW) (k : Int) (r : Nat) : Prop := ∃ i : Nat, i < (w_T W r).length ∧ w_tx W r i = w_sd W ∧ (k = -1 ∨ 0 < w_wt W r k i)
theorem mtP_iff {W : qW} {k : Int} {r : Nat} : ((∃ i, i < (w_T W r).length ∧ w_tx W r i = w_sd W) ∧ (k ≠ -1 → 0 < shT (w_wt W r k) (w_tx W r) (w_sd W) (w_T W r).length)) ↔ mtP W k r := by
  constructor
  · rintro ⟨⟨i, a, b⟩, c⟩
    by_cases e : k = -1
    · exact ⟨i, a, b, Or.inl e⟩
    · obtain ⟨j, x, y, z⟩ := (shT_pos (w_wt_rng W r k) _).mp (c e)
      exact ⟨j, x, y, Or.inr z⟩
  · rintro ⟨i, a, b, c⟩
    exact ⟨⟨i, a, b⟩, fun e => (shT_pos (w_wt_rng W r k) _).mpr ⟨i, a, b, c.resolve_left e⟩⟩
theorem c_115l {d : Nat} {P : Int → qM → Prop} {M0 : qM} {W : qW} {k : Int} {c s : Nat} (g : WG W) (hk : k = -1 ∨ w_mk W k) (K : ∀ M', fr Zc M0 M' → WC W M' → P (msk (mtP W k) (w_nr W).toNat) M') : ∀ (n y : Nat) (M : qM), (y : Int) + n = w_nr W → fr Zc M0 M → q_lay M → WC W M → q_At q_m115 (q_WP q_Pr (d + 8)) P 19 [(0, .inr (.inr 0)), (1, .inl k), (2, .inl (msk (mtP W k) y)), (3, .inl (y : Int))] [] M c s := by
  intro n
  induction n with
  | zero =>
    intro y M h1 f hl w
    have kk := K M f w
    rw [show (w_nr W).toNat = y by omega] at kk
    refine t_115_19 hl ?_
    rw [w.2.2.1.1]
    exact ⟨fun _ => kk, fun z => absurd z (by omega)⟩
  | succ n ih =>
    intro y M h1 f hl w
    have gn := g.2.2.1.1
    refine t_115_19 hl ?_
    rw [w.2.2.1.1, w32_id (x := (y : Int) + 1) (by omega) (by omega), show (y : Int) + 1 = ((y + 1 : Nat) : Int) by omega]
    have nx := fun M' f' l' w' => ih (y + 1) M' (by omega) f' l' w'
    refine ⟨fun z => absurd z (by omega), fun _ => ⟨fun z => ?_, fun z => ?_⟩⟩
    · have mk := hk.resolve_left z
      have mk1 := mk.1
      refine c_140W (d := d) hl g w (fun _ hr M' f' l' w' cx rd wt er e2 => ⟨l', fun z => absurd z (by have := q_ml_ge cx.1.1; omega), fun _ => ⟨mk0 cx.1.1, ?_⟩⟩) (fun hn => absurd ⟨mk, by omega, by omega⟩ hn)
      have nx' := nx M' (fr_trans f f') l' w'
      refine c_26W (d := d + 4) g hr cx rd (Or.inr ⟨by omega, wt⟩) (spk19 l' g w') (fun a b => ⟨l', fun q => absurd q (by decide), fun _ => ?_⟩) (fun a => ⟨l', fun _ => ?_, fun q => absurd rfl q⟩)
      · rw [msk_t (mtP_iff.mp ⟨a, b⟩)] at nx'; exact nx'
      · rw [msk_f (fun q => a (mtP_iff.mpr q))] at nx'; exact nx'
    · refine c_139W (d := d + 2) hl g w (fun hr M' f' l' w' er cx rd e2 => ⟨l', fun z => absurd z (by have := q_ml_ge cx.1.1; omega), fun _ => ⟨mk0 cx.1.1, ?_⟩⟩) (fun hn => absurd ⟨by omega, by omega⟩ hn)
      have nx' := nx M' (fr_trans f f') l' w'
      refine c_26W (d := d + 4) g hr cx rd (Or.inl z) (spk19 l' g w') (fun a b => ⟨l', fun q => absurd q (by decide), fun _ => ?_⟩) (fun a => ⟨l', fun _ => ?_, fun q => absurd rfl q⟩)
      · rw [msk_t (mtP_iff.mp ⟨a, b⟩)] at nx'; exact nx'
      · rw [msk_f (fun q => a (mtP_iff.mpr q))] at nx'; exact nx'
def mtQ (W : qW) (k : Int) (r i : Nat) : Prop := w_tx W r i = w_sd W ∧ (k = -1 ∨ 0 < w_wt W r k i)
theorem r_230i {d : Nat} {P : Int → qM → Prop} {M : qM} {W : qW} {k x : Int} {r : Nat} {c s : Nat} (hl : q_lay M) (g : WG W) (w : WR W M) (hr : 0 ≤ (r : Int) ∧ (r : Int) < w_nr W) (rd : w_rd W M r) (wt : k ≠ -1 → ∀ i : Nat, i < (w_T W r).length → q_nm M 118 i = w_wt W r k i) (K : q_At q_m230 (q_WP q_Pr (d + 2)) P 19 [(0, .inr (.inr 66)), (1, .inl k), (2, .inl (cif (mtP W k r) (q_or x (q_shl 1 (r : Int))) x)), (3, .inl ((r : Int) + 1))] [] M c s) : ∀ (n i : Nat), i + n = (w_T W r).length → q_At q_m230 (q_WP q_Pr (d + 2)) P 50 [(0, .inr (.inr 66)), (1, .inl k), (2, .inl (cif (∃ j, j < i ∧ mtQ W k r j) (q_or x (q_shl 1 (r : Int))) x)), (3, .inl (r : Int)), (4, .inl (i : Int))] [] M c s := by
  have gn := g.2.2.1.1
  intro n
  induction n with
  | zero =>
    intro i h0
    refine t_230_50 hl ?_
    rw [show q_nm M 66 55 = (w_T W r).length from rd.2.2.2.1, w32_id (x := (r : Int) + 1) (by omega) (by omega)]
    refine ⟨fun _ => ?_, fun z => absurd z (by omega)⟩
    rw [show i = (w_T W r).length by omega]
    exact K
  | succ n ih =>
    intro i h0
    have tk := tk_all g hr
    have hin : i < (w_T W r).length := by omega
    refine t_230_50 hl ?_
    rw [show q_nm M 66 55 = (w_T W r).length from rd.2.2.2.1, w32_id (x := (i : Int) + 1) (by omega) (by omega), show (i : Int) + 1 = ((i + 1 : Nat) : Int) by omega]
    have nx := ih (i + 1) (by omega)
    have no : ¬ mtQ W k r i → q_At q_m230 (q_WP q_Pr (d + 2)) P 50 [(0, .inr (.inr 66)), (1, .inl k), (2, .inl (cif (∃ j, j < i ∧ mtQ W k r j) (q_or x (q_shl 1 (r : Int))) x)), (3, .inl (r : Int)), (4, .inl ((i + 1 : Nat) : Int))] [] M c s := fun q => by
      by_cases e : ∃ j, j < i ∧ mtQ W k r j
      · obtain ⟨j, a, b⟩ := e
        rw [cif_pos ⟨j, by omega, b⟩] at nx; rw [cif_pos ⟨j, a, b⟩]; exact nx
      · rw [cif_neg (fun ⟨j, a, b⟩ => e ⟨j, by
          by_cases e2 : j = i
          · rw [e2] at b; exact absurd b q
          · omega, b⟩)] at nx; rw [cif_neg e]; exact nx
    have ye : mtQ W k r i → q_At q_m230 (q_WP q_Pr (d + 2)) P 50 [(0, .inr (.inr 66)), (1, .inl k), (2, .inl (q_or (cif (∃ j, j < i ∧ mtQ W k r j) (q_or x (q_shl 1 (r : Int))) x) (q_shl 1 (r : Int)))), (3, .inl (r : Int)), (4, .inl ((i + 1 : Nat) : Int))] [] M c s := fun q => by
      rw [cif_pos ⟨i, by omega, q⟩] at nx
      by_cases e : ∃ j, j < i ∧ mtQ W k r j
      · rw [cif_pos e, q_or_idem]; exact nx
      · rw [cif_neg e]; exact nx
    refine ⟨fun z => absurd z (by omega), fun _ => ?_⟩
    refine r_224W hl g w hr rd hin (fun e => ⟨hl, fun q => absurd q (by decide), fun _ => ⟨fun y => ye ⟨e, Or.inl y⟩, fun y => ⟨by omega, ?_⟩⟩⟩) (fun e => ⟨hl, fun _ => no (fun q => e q.1), fun q => absurd rfl q⟩)
    rw [wt y i hin]
    exact ⟨fun v => no (fun q => q.2.elim y (fun v' => by omega)), fun v => ye ⟨e, Or.inr v⟩⟩
theorem r_230l {d : Nat} {P : Int → qM → Prop} {M0 : qM} {W : qW} {k : Int} {c s : Nat} (g : WG W) (hk : k = -1 ∨ w_mk W k) (K : ∀ M', fr Zr M0 M' → WR W M' → P (msk (mtP W k) (w_nr W).toNat) M') : ∀ (n y : Nat) (M : qM), (y : Int) + n = w_nr W → fr Zr M0 M → q_lay M → WR W M → q_At q_m230 (q_WP q_Pr (d + 7)) P 19 [(0, .inr (.inr 66)), (1, .inl k), (2, .inl (msk (mtP W k) y)), (3, .inl (y : Int))] [] M c s := by
  intro n
  induction n with
  | zero =>
    intro y M h1 f hl w
    have kk := K M f w
    rw [show (w_nr W).toNat = y by omega] at kk
    refine t_230_19 hl ?_
    rw [w.2.2.1.1]
    exact ⟨fun _ => kk, fun z => absurd z (by omega)⟩
  | succ n ih =>
    intro y M h1 f hl w
    have gn := g.2.2.1.1
    have hr : 0 ≤ (y : Int) ∧ (y : Int) < w_nr W := by omega
    refine t_230_19 hl ?_
    rw [w.2.2.1.1]
    have start : ∀ M', q_lay M' → fr Zr M0 M' → WR W M' → w_rd W M' y → (k ≠ -1 → ∀ i : Nat, i < (w_T W y).length → q_nm M' 118 i = w_wt W y k i) → q_At q_m230 (q_WP q_Pr (d + 7)) P 50 [(0, .inr (.inr 66)), (1, .inl k), (2, .inl (msk (mtP W k) y)), (3, .inl (y : Int)), (4, .inl (0 : Int))] [] M' c s := fun M' l' f' w' rd wt => by
      have r := r_230i (d := d + 5) (P := P) (x := msk (mtP W k) y) (c := c) (s := s) l' g w' hr rd wt (by
        have nx := ih (y + 1) M' (by omega) f' l' w'
        rw [show (y : Int) + 1 = ((y + 1 : Nat) : Int) by omega]; exact nx) (w_T W y).length 0 (by omega)
      rw [cif_neg (fun ⟨j, a, _⟩ => absurd a (Nat.not_lt_zero j))] at r
      exact r
    refine ⟨fun z => absurd z (by omega), fun _ => ⟨fun z => ?_, fun z => ?_⟩⟩
    · exact r_215W (d := d) hl g w hr (hk.resolve_left z) (fun M' f' l' w' rd wt => ⟨l', start M' l' (fr_trans f f') w' rd (fun _ => wt)⟩)
    · exact r_201W (d := d + 1) hl g w hr (fun M' f' l' w' rd => ⟨l', start M' l' (fr_trans f f') w' rd (fun q => absurd z q)⟩)
theorem ok_meant' {L : Nat} {X : Int → Int} {D : Nat} : ∀ a : Int, q_i32 a → q_ok L X (INV L X) (D + 30) 115 230 [.inl a] := by
  intro a _
  refine q_okQ (fun W => cif (a = -1 ∨ w_mk W a) (msk (mtP W a) (w_nr W).toNat) (-1)) id (fun W g => g) (fun W M hl g h => ?_) (fun W M hl g h => ?_)
  · have gn := g.2.2.1.1
    refine q_enter (t_115_0 (d := D + 28) hl ⟨fun z => ?_, fun z => ⟨fun y => ?_, fun y => ⟨(cif_neg (fun q => q.elim z (fun mk => y ⟨mk.1, (C_mk h (by have := mk.1; omega)).mpr mk.2⟩))).symm, kR_rfl hl, h⟩⟩⟩)
    · rw [cif_pos (Or.inl z)]
      exact c_115l (d := D + 21) (M0 := M) g (Or.inl z) (fun M' f w => ⟨rfl, kR_fr hl f, w⟩) (w_nr W).toNat 0 M (by omega) fr_rfl hl h
    · have mk : w_mk W a := ⟨y.1, (C_mk h (by omega)).mp y.2⟩
      rw [cif_pos (Or.inr mk)]
      exact c_115l (d := D + 21) (M0 := M) g (Or.inr mk) (fun M' f w => ⟨rfl, kR_fr hl f, w⟩) (w_nr W).toNat 0 M (by omega) fr_rfl hl h
  · have gn := g.2.2.1.1
    refine q_enter (t_230_0 (d := D + 27) hl ⟨fun z => ?_, fun z => ⟨fun y => ?_, fun y => ⟨(cif_neg (fun q => q.elim z (fun mk => y ((R_mk h).mpr mk)))).symm, fr_rfl, h⟩⟩⟩)
    · rw [cif_pos (Or.inl z)]
      exact r_230l (d := D + 22) (M0 := M) g (Or.inl z) (fun M' f w => ⟨rfl, f, w⟩) (w_nr W).toNat 0 M (by omega) fr_rfl hl h
    · have mk := (R_mk h).mp y
      rw [cif_pos (Or.inr mk)]
      exact r_230l (d := D + 22) (M0 := M) g (Or.inr mk) (fun M' f w => ⟨rfl, f, w⟩) (w_nr W).toNat 0 M (by omega) fr_rfl hl h
end
