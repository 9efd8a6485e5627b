section
theorem sumN_pos {f : Nat → Int} (h : ∀ i, 0 ≤ f i) : ∀ n : Nat, 0 ≤ sumN f n ∧ (0 < sumN f n ↔ ∃ i, i < n ∧ 0 < f i) := by
  intro n
  induction n with
  | zero => exact ⟨Int.le_refl 0, fun z => absurd z (by show ¬ (0 : Int) < 0; omega), fun ⟨i, a, _⟩ => absurd a (Nat.not_lt_zero i)⟩
  | succ n ih =>
    have e : sumN f (n + 1) = sumN f n + f n := rfl
    have hn := h n
    refine ⟨by omega, fun z => ?_, fun ⟨i, a, b⟩ => ?_⟩
    · by_cases q : 0 < f n
      · exact ⟨n, by omega, q⟩
      · obtain ⟨i, a, b⟩ := ih.2.mp (by omega)
        exact ⟨i, by omega, b⟩
    · by_cases q : i = n
      · rw [q] at b; omega
      · have := ih.2.mpr ⟨i, by omega, b⟩; omega
theorem shT_pos {w : Nat → Int} {tx : Nat → List Int} {l : List Int} (h : ∀ i, 0 ≤ w i ∧ w i ≤ 1000) : ∀ n : Nat, 0 < shT w tx l n ↔ ∃ i, i < n ∧ tx i = l ∧ 0 < w i := by
  intro n
  induction n with
  | zero => exact ⟨fun z => absurd z (by show ¬ (0 : Int) < 0; omega), fun ⟨i, a, _⟩ => absurd a (Nat.not_lt_zero i)⟩
  | succ n ih =>
    have hn := h n
    have r := shT_rng (w := w) (tx := tx) (l := l) h n
    refine ⟨fun z => ?_, fun ⟨i, a, b, c⟩ => ?_⟩
    · by_cases q : tx n = l
      · rw [shT_t q] at z
        by_cases p : 0 < w n
        · exact ⟨n, by omega, q, p⟩
        · obtain ⟨i, a, b⟩ := ih.mp (by omega)
          exact ⟨i, by omega, b⟩
      · rw [shT_f q] at z
        obtain ⟨i, a, b⟩ := ih.mp z
        exact ⟨i, by omega, b⟩
    · by_cases q : i = n
      · rw [q] at b c; rw [shT_t b]; omega
      · have := ih.mpr ⟨i, by omega, b, c⟩
        by_cases p : tx n = l
        · rw [shT_t p]; omega
        · rw [shT_f p]; exact this
noncomputable def kdS (W : qW) (r k kd : Int) (n : Nat) : Int := sumN (fun i => cif ((w_t W r i).1 = kd) (w_wt W r k i) 0) n
theorem kdS_t {W : qW} {r k kd : Int} {n : Nat} (h : (w_t W r n).1 = kd) : kdS W r k kd (n + 1) = kdS W r k kd n + w_wt W r k n := by
  show _ + cif _ _ _ = _; rw [cif_pos h]; rfl
theorem kdS_f {W : qW} {r k kd : Int} {n : Nat} (h : ¬ (w_t W r n).1 = kd) : kdS W r k kd (n + 1) = kdS W r k kd n := by
  show _ + cif _ _ _ = _; rw [cif_neg h]; exact Int.add_zero _
theorem kdS_rng {W : qW} {r k kd : Int} : ∀ n : Nat, 0 ≤ kdS W r k kd n ∧ kdS W r k kd n ≤ sumN (w_wt W r k) n := by
  intro n
  induction n with
  | zero => exact ⟨Int.le_refl 0, Int.le_refl 0⟩
  | succ n ih =>
    have wr := w_wt_rng W r k n
    have e : sumN (w_wt W r k) (n + 1) = sumN (w_wt W r k) n + w_wt W r k n := rfl
    by_cases h : (w_t W r n).1 = kd
    · rw [kdS_t h]; omega
    · rw [kdS_f h]; omega
def nvP (W : qW) (k kd r : Int) : Prop := ∃ i : Nat, i < (w_T W r).length ∧ (w_t W r i).1 = kd ∧ 0 < w_wt W r k i
theorem kdS_pos {W : qW} {r k kd : Int} : 0 < kdS W r k kd (w_T W r).length ↔ nvP W k kd r := by
  have key := sumN_pos (f := fun i => cif ((w_t W r i).1 = kd) (w_wt W r k i) 0) (fun i => by
    have wr := w_wt_rng W r k i
    by_cases h : (w_t W r i).1 = kd
    · rw [cif_pos h]; exact wr.1
    · rw [cif_neg h]; exact Int.le_refl 0) (w_T W r).length
  constructor
  · intro z
    obtain ⟨i, a, b⟩ := key.2.mp z
    by_cases h : (w_t W r i).1 = kd
    · rw [cif_pos h] at b; exact ⟨i, a, h, b⟩
    · rw [cif_neg h] at b; exact absurd b (by omega)
  · rintro ⟨i, a, h, b⟩
    exact key.2.mpr ⟨i, a, by rw [cif_pos h]; exact b⟩
theorem c_28l {d : Nat} {P : Int → qM → Prop} {M : qM} {W : qW} {m r k kd : Int} {c s : Nat} (g : WG W) (hr : 0 ≤ r ∧ r < w_nr W) (cx : w_ctx W M m r) (rd : w_rdy W M m r) (hk : 0 ≤ k ∧ k < 5) (wt : C_wt M m k (w_wt W r k) (w_tx W r) (w_T W r).length) (K : P (kdS W r k kd (w_T W r).length) M) : ∀ (n i : Nat), i + n = (w_T W r).length → q_At q_m28 (q_WP q_Pr d) P 5 [(0, .inr (.inr m)), (1, .inl kd), (2, .inl k), (3, .inl (kdS W r k kd i)), (4, .inl (i : Int))] [] M c s := by
  have hm := cx.1.1
  have q := mw hm (i := k) hk.1 hk.2
  intro n
  induction n with
  | zero =>
    intro i h0
    refine t_28_5 hm ?_
    rw [show q_nm M m 3 = (w_T W r).length from rd.1.1]
    rw [← show i = (w_T W r).length by omega] at K ⊢
    exact ⟨fun _ => K, fun z => absurd z (by omega)⟩
  | succ n ih =>
    intro i h0
    have tk := tk_all g hr
    have hin : i < (w_T W r).length := by omega
    have at1 := rd.1.2 i hin
    have s1 := kdS_rng (W := W) (r := r) (k := k) (kd := kd) (i + 1)
    have s3 := w_sum (k := k) g hr (n := i + 1) (by omega)
    have nx := ih (i + 1) (by omega)
    refine t_28_5 hm ?_
    rw [q.1, q.2.1, q.2.2, show q_nm M m 3 = (w_T W r).length from rd.1.1, show q_nm M (m + 4) i = (w_t W r i).1 from at1.1, wt.1 i hin, w32_id (x := (i : Int) + 1) (by omega) (by omega), show (i : Int) + 1 = ((i + 1 : Nat) : Int) by omega]
    refine ⟨fun z => absurd z (by omega), fun _ => ⟨by omega, fun z => ?_, fun z => ⟨hk, ⟨rfl, by omega, by omega⟩, ?_⟩⟩⟩
    · rw [kdS_f z] at nx; exact nx
    · rw [kdS_t z] at nx s1
      rw [w32_id (by omega) (by omega)]; exact nx
theorem c_28W {d : Nat} {P : Int → qM → Prop} {M : qM} {W : qW} {m r k kd : Int} (g : WG W) (hr : 0 ≤ r ∧ r < w_nr W) (cx : w_ctx W M m r) (rd : w_rdy W M m r) (hk : 0 ≤ k ∧ k < 5) (wt : C_wt M m k (w_wt W r k) (w_tx W r) (w_T W r).length) (K : P (kdS W r k kd (w_T W r).length) M) : q_WP q_Pr (d + 1) 28 [.inr (.inr m), .inl kd, .inl k] M P :=
  q_enter (t_28_0 cx.1.1 (c_28l g hr cx rd hk wt K (w_T W r).length 0 (by omega)))
theorem c_117l {d : Nat} {P : Int → qM → Prop} {M0 : qM} {W : qW} {k kd : Int} {c s : Nat} (g : WG W) (mk : w_mk W k) (K1 : (∃ r, (0 ≤ r ∧ r < w_nr W) ∧ nvP W k kd r) → ∀ M', fr Zc M0 M' → WC W M' → P 0 M') (K0 : ¬ (∃ r, (0 ≤ r ∧ r < w_nr W) ∧ nvP W k kd r) → ∀ M', fr Zc M0 M' → WC W M' → P 1 M') : ∀ (n : Nat) (y : Int) (M : qM), 0 ≤ y → y + n = w_nr W → fr Zc M0 M → q_lay M → WC W M → (∀ r, 0 ≤ r → r < y → ¬ nvP W k kd r) → q_At q_m117 (q_WP q_Pr (d + 8)) P 19 [(0, .inr (.inr 0)), (1, .inl k), (2, .inl kd), (3, .inl y)] [] M c s := by
  intro n
  induction n with
  | zero =>
    intro y M h0 h1 f hl w hn
    refine t_117_19 hl ?_
    rw [w.2.2.1.1]
    exact ⟨fun _ => K0 (fun ⟨r, a, b⟩ => hn r a.1 (by omega) b) M f w, fun z => absurd z (by omega)⟩
  | succ n ih =>
    intro y M h0 h1 f hl w hn
    have gn := g.2.2.1.1
    have mk1 := mk.1
    refine t_117_19 hl ?_
    rw [w.2.2.1.1, w32_id (x := y + 1) (by omega) (by omega)]
    refine ⟨fun z => absurd z (by omega), fun _ => c_140W (d := d) hl g w (fun _ hr M' f' l' w' cx rd wt er e2 => ⟨l', fun z => absurd z (by have := q_ml_ge cx.1.1; omega), fun _ => ⟨mk0 cx.1.1, ?_⟩⟩) (fun hn => absurd ⟨mk, by omega, by omega⟩ hn)⟩
    refine c_28W (d := d + 7) g hr cx rd (by omega) wt ⟨l', fun z => ?_, fun z => K1 ⟨y, hr, kdS_pos.mp z⟩ M' (fr_trans f f') w'⟩
    refine ih (y + 1) M' (by omega) (by omega) (fr_trans f f') l' w' (fun r a b => ?_)
    by_cases e : r = y
    · rw [e]; exact fun q => by have := kdS_pos.mpr q; omega
    · exact hn r a (by omega)
theorem r_232i {d : Nat} {P : Int → qM → Prop} {M : qM} {W : qW} {r k kd : Int} {c s : Nat} (hl : q_lay M) (g : WG W) (hr : 0 ≤ r ∧ r < w_nr W) (rd : w_rd W M r) (wt : ∀ i : Nat, i < (w_T W r).length → q_nm M 118 i = w_wt W r k i) (K1 : nvP W k kd r → P 0 M) (K0 : ¬ nvP W k kd r → q_At q_m232 (q_WP q_Pr d) P 20 [(0, .inr (.inr 66)), (1, .inl k), (2, .inl kd), (3, .inl (r + 1))] [] M c s) : ∀ (n i : Nat), i + n = (w_T W r).length → (∀ j : Nat, j < i → ¬ ((w_t W r j).1 = kd ∧ 0 < w_wt W r k j)) → q_At q_m232 (q_WP q_Pr d) P 38 [(0, .inr (.inr 66)), (1, .inl k), (2, .inl kd), (3, .inl r), (4, .inl (i : Int))] [] M c s := by
  have gn := g.2.2.1.1
  intro n
  induction n with
  | zero =>
    intro i h0 hn
    refine t_232_38 hl ?_
    rw [show q_nm M 66 55 = (w_T W r).length from rd.2.2.2.1, w32_id (x := r + 1) (by omega) (by omega)]
    exact ⟨fun _ => K0 (fun ⟨j, a, b⟩ => hn j (by omega) b), fun z => absurd z (by omega)⟩
  | succ n ih =>
    intro i h0 hn
    have tk := tk_all g hr
    have hin : i < (w_T W r).length := by omega
    have t1 := rd.2.2.2.2 i hin
    refine t_232_38 hl ?_
    rw [show q_nm M 66 55 = (w_T W r).length from rd.2.2.2.1, show q_nm M 108 i = (w_t W r i).1 from t1.1.1, wt i hin, w32_id (x := (i : Int) + 1) (by omega) (by omega), show (i : Int) + 1 = ((i + 1 : Nat) : Int) by omega]
    have nx : ¬ ((w_t W r i).1 = kd ∧ 0 < w_wt W r k i) → q_At q_m232 (q_WP q_Pr d) P 38 [(0, .inr (.inr 66)), (1, .inl k), (2, .inl kd), (3, .inl r), (4, .inl ((i + 1 : Nat) : Int))] [] M c s := fun q => ih (i + 1) (by omega) (fun j hj => by
      by_cases e : j = i
      · rw [e]; exact q
      · exact hn j (by omega))
    exact ⟨fun z => absurd z (by omega), fun _ => ⟨by omega, fun z => nx (fun q => z q.1), fun z => ⟨by omega, fun y => nx (fun q => by have := q.2; omega), fun y => K1 ⟨i, hin, z, y⟩⟩⟩⟩
theorem r_232l {d : Nat} {P : Int → qM → Prop} {M0 : qM} {W : qW} {k kd : Int} {c s : Nat} (g : WG W) (mk : w_mk W k) (K1 : (∃ r, (0 ≤ r ∧ r < w_nr W) ∧ nvP W k kd r) → ∀ M', fr Zr M0 M' → WR W M' → P 0 M') (K0 : ¬ (∃ r, (0 ≤ r ∧ r < w_nr W) ∧ nvP W k kd r) → ∀ M', fr Zr M0 M' → WR W M' → P 1 M') : ∀ (n : Nat) (y : Int) (M : qM), 0 ≤ y → y + n = w_nr W → fr Zr M0 M → q_lay M → WR W M → (∀ r, 0 ≤ r → r < y → ¬ nvP W k kd r) → q_At q_m232 (q_WP q_Pr (d + 7)) P 20 [(0, .inr (.inr 66)), (1, .inl k), (2, .inl kd), (3, .inl y)] [] M c s := by
  intro n
  induction n with
  | zero =>
    intro y M h0 h1 f hl w hn
    refine t_232_20 hl ?_
    rw [w.2.2.1.1]
    exact ⟨fun _ => K0 (fun ⟨r, a, b⟩ => hn r a.1 (by omega) b) M f w, fun z => absurd z (by omega)⟩
  | succ n ih =>
    intro y M h0 h1 f hl w hn
    refine t_232_20 hl ?_
    rw [w.2.2.1.1]
    refine ⟨fun z => absurd z (by omega), fun _ => r_215W (d := d) hl g w (by omega) mk (fun M' f' l' w' rd wt => ⟨l', ?_⟩)⟩
    refine r_232i l' g (by omega) rd wt (fun q => K1 ⟨y, by omega, q⟩ M' (fr_trans f f') w') (fun q => ih (y + 1) M' (by omega) (by omega) (fr_trans f f') l' w' (fun r a b => ?_)) (w_T W y).length 0 (by omega) (fun j hj => absurd hj (Nat.not_lt_zero j))
    by_cases e : r = y
    · rw [e]; exact q
    · exact hn r a (by omega)
theorem ok_never' {L : Nat} {X : Int → Int} {D : Nat} : ∀ a b : Int, q_i32 a → q_i32 b → q_ok L X (INV L X) (D + 30) 117 232 [.inl a, .inl b] := by
  intro a b _ _
  refine q_okQ (fun W => cif (w_mk W a ∧ (0 ≤ b ∧ b ≤ 8)) (cif (∃ r, (0 ≤ r ∧ r < w_nr W) ∧ nvP W a b r) 0 1) (-1)) id (fun W g => g) (fun W M hl g h => ?_) (fun W M hl g h => ?_)
  · have gn := g.2.2.1.1
    refine q_enter (t_117_0 (d := D + 28) hl ⟨fun z => ⟨fun y => ?_, fun y => ⟨(cif_neg (fun q => y q.2)).symm, kR_rfl hl, h⟩⟩, fun z => ⟨(cif_neg (fun q => z ⟨q.1.1, (C_mk h (by have := q.1.1; omega)).mpr q.1.2⟩)).symm, kR_rfl hl, h⟩⟩)
    have mk : w_mk W a := ⟨z.1, (C_mk h (by omega)).mp z.2⟩
    rw [cif_pos ⟨mk, y⟩]
    exact c_117l (d := D + 21) (M0 := M) g mk (fun q M' f w => ⟨(cif_pos q).symm, kR_fr hl f, w⟩) (fun q M' f w => ⟨(cif_neg q).symm, kR_fr hl f, w⟩) (w_nr W).toNat 0 M (Int.le_refl 0) (by omega) fr_rfl hl h (fun r a b => by omega)
  · have gn := g.2.2.1.1
    refine q_enter (t_232_0 (d := D + 27) hl ⟨fun z => ⟨fun y => ?_, fun y => ⟨(cif_neg (fun q => y q.2)).symm, fr_rfl, h⟩⟩, fun z => ⟨(cif_neg (fun q => z ((R_mk h).mpr q.1))).symm, fr_rfl, h⟩⟩)
    have mk := (R_mk h).mp z
    rw [cif_pos ⟨mk, y⟩]
    exact r_232l (d := D + 22) (M0 := M) g mk (fun q M' f w => ⟨(cif_pos q).symm, f, w⟩) (fun q M' f w => ⟨(cif_neg q).symm, f, w⟩) (w_nr W).toNat 0 M (Int.le_refl 0) (by omega) fr_rfl hl h (fun r a b => by omega)
end
