section
theorem spk19 {W : qW} {M : qM} (hl : q_lay M) (g : WG W) (w : WC W M) : spk M 19 (w_sd W) := ⟨20, isSp19 hl, w.2.2.2.2.2.1, g.2.2.2.1⟩
def reP (W : qW) (r k x : Int) (i : Nat) : Prop := (w_t W r i).1 = k ∧ (x = 0 ∨ realP (w_nw W) (w_WL W) (w_RL W r) (w_t W r i))
theorem c_128l {d : Nat} {P : Int → qM → Prop} {M : qM} {W : qW} {m r k x : Int} {c s : Nat} (g : WG W) (hr : 0 ≤ r ∧ r < w_nr W) (cx : w_ctx W M m r) (rd : w_rdy W M m r) (K : P (cN (reP W r k x) (w_T W r).length) M) : ∀ (n i : Nat), i + n = (w_T W r).length → q_At q_m128 (q_WP q_Pr d) P 27 [(2, .inl k), (3, .inl x), (4, .inr (.inr m)), (5, .inl (cN (reP W r k x) i)), (6, .inl (i : Int))] [] M c s := by
  have hm := cx.1.1
  intro n
  induction n with
  | zero =>
    intro i h0
    refine t_128_27 hm.1 ?_
    rw [show q_nm M m 3 = (w_T W r).length from rd.1.1]
    rw [← show i = (w_T W r).length by omega] at K ⊢
    exact ⟨mk0 hm, fun _ => K, fun z => absurd z (by omega)⟩
  | succ n ih =>
    intro i h0
    have tk := tk_all g hr
    have hin : i < (w_T W r).length := by omega
    have cr := cN_rng (p := reP W r k x) i
    have at1 := rd.1.2 i hin
    have de1 := (rd.2.1 i hin).2.1
    refine t_128_27 hm.1 ?_
    rw [mr4 hm, mk4 hm, ml4 hm, mr8 hm, mk8 hm, ml8 hm, show q_nm M m 3 = (w_T W r).length from rd.1.1, show q_nm M (m + 4) i = (w_t W r i).1 from at1.1, w32_id (x := cN (reP W r k x) i + 1) (by omega) (by omega), w32_id (x := (i : Int) + 1) (by omega) (by omega), show (i : Int) + 1 = ((i + 1 : Nat) : Int) by omega]
    have nx := ih (i + 1) (by omega)
    refine ⟨mk0 hm, fun z => absurd z (by omega), fun _ => ⟨mk0 hm, ⟨by omega, by omega, by omega⟩, fun z => ?_, fun z => ⟨mk0 hm, ⟨by omega, by omega, by omega⟩, fun y => ?_, fun y => ⟨fun v => ?_, fun v => ?_⟩⟩⟩⟩
    · rw [cN_f (fun q => z q.1)] at nx; exact nx
    · rw [cN_t ⟨z, Or.inr ((rl_nz de1).mp y)⟩] at nx; exact nx
    · rw [cN_f (fun q => q.2.elim v (fun e => (rl_nz de1).mpr e y))] at nx; exact nx
    · rw [cN_t ⟨z, Or.inl v⟩] at nx; exact nx
theorem r_205l {d : Nat} {P : Int → qM → Prop} {M : qM} {W : qW} {r k x : Int} {c s : Nat} (hl : q_lay M) (g : WG W) (hr : 0 ≤ r ∧ r < w_nr W) (rd : w_rd W M r) (K : P (cN (reP W r k x) (w_T W r).length) M) : ∀ (n i : Nat), i + n = (w_T W r).length → q_At q_m205 (q_WP q_Pr d) P 29 [(0, .inr (.inr 66)), (2, .inl k), (3, .inl x), (4, .inl (cN (reP W r k x) i)), (5, .inl (i : Int))] [] M c s := by
  intro n
  induction n with
  | zero =>
    intro i h0
    refine t_205_29 hl ?_
    rw [show q_nm M 66 55 = (w_T W r).length from rd.2.2.2.1]
    rw [← show i = (w_T W r).length by omega] at K ⊢
    exact ⟨fun _ => K, fun z => absurd z (by omega)⟩
  | succ n ih =>
    intro i h0
    have tk := tk_all g hr
    have hin : i < (w_T W r).length := by omega
    have cr := cN_rng (p := reP W r k x) i
    have t1 := rd.2.2.2.2 i hin
    have de1 := t1.2.2.2.2.2
    refine t_205_29 hl ?_
    rw [show q_nm M 66 55 = (w_T W r).length from rd.2.2.2.1, show q_nm M 108 i = (w_t W r i).1 from t1.1.1, w32_id (x := cN (reP W r k x) i + 1) (by omega) (by omega), w32_id (x := (i : Int) + 1) (by omega) (by omega), show (i : Int) + 1 = ((i + 1 : Nat) : Int) by omega]
    have nx := ih (i + 1) (by omega)
    refine ⟨fun z => absurd z (by omega), fun _ => ⟨by omega, fun z => ?_, fun z => ⟨fun v => ?_, fun v => ⟨by omega, fun y => ?_, fun y => ?_⟩⟩⟩⟩
    · rw [cN_f (fun q => z q.1)] at nx; exact nx
    · rw [cN_t ⟨z, Or.inl v⟩] at nx; exact nx
    · rw [cN_f (fun q => q.2.elim v (fun e => (rl_nz de1).mpr e y))] at nx; exact nx
    · rw [cN_t ⟨z, Or.inr ((rl_nz de1).mp y)⟩] at nx; exact nx
theorem ok_reals' {L : Nat} {X : Int → Int} {D : Nat} : ∀ a b c : Int, q_i32 a → q_i32 b → q_i32 c → q_ok L X (INV L X) (D + 30) 128 205 [.inl a, .inl b, .inl c] := by
  intro a b c _ _ _
  refine q_okQ (fun W => cif ((0 ≤ a ∧ a < w_nr W) ∧ (0 ≤ b ∧ b ≤ 8)) (cN (reP W a b c) (w_T W a).length) (-1)) id (fun W g => g) (fun W M hl g h => ?_) (fun W M hl g h => ?_)
  · refine q_enter (t_128_0 (d := D + 28) hl (c_139W (d := D + 23) hl g h (fun hr M' f l w er cx rd e2 => ⟨l, fun z => absurd z (by have := q_ml_ge cx.1.1; omega), fun _ => ⟨fun y => ?_, fun y => ⟨(cif_neg (fun q => y q.2)).symm, kR_fr hl f, w⟩⟩⟩) (fun hr => ⟨hl, fun _ => ⟨(cif_neg (fun q => hr q.1)).symm, kR_rfl hl, h⟩, fun z => absurd rfl z⟩)))
    rw [cif_pos ⟨hr, y⟩]
    exact c_128l g hr cx rd ⟨rfl, kR_fr hl f, w⟩ (w_T W a).length 0 (by omega)
  · refine q_enter (t_205_0 (d := D + 27) hl ?_)
    rw [h.2.2.1.1]
    refine ⟨g.2.2.1.1, fun hr => ⟨fun y => r_201W (d := D + 23) hl g h hr (fun M' f l w rd => ⟨l, ?_⟩), fun y => ⟨(cif_neg (fun q => y q.2)).symm, fr_rfl, h⟩⟩, fun hr => ⟨(cif_neg (fun q => hr q.1)).symm, fr_rfl, h⟩⟩
    rw [cif_pos ⟨hr, y⟩]
    exact r_205l l g hr rd ⟨rfl, f, w⟩ (w_T W a).length 0 (by omega)
/-- where most of the weight is -/
def mxI (w : Nat → Int) : Nat → Nat
  | 0 => 0
  | n + 1 => if w (mxI w n) < w n then n else mxI w n
theorem mxI_le (w : Nat → Int) : ∀ n, mxI w n ≤ n := by
  intro n
  induction n with
  | zero => exact Nat.le_refl 0
  | succ n ih => unfold mxI; split <;> omega
theorem mxI_lt (w : Nat → Int) (n : Nat) (h : 0 < n) : mxI w n < n := by
  cases n with
  | zero => omega
  | succ n => have := mxI_le w n; unfold mxI; split <;> omega
theorem tk_pos {W : qW} {r : Int} : 0 < (w_T W r).length := by
  have key : ∀ (B : Int → Int → Int → Bool) (n nw k : Nat), 0 < (tkK B n nw k).length := by
    intro B n nw k
    induction k with
    | zero => show 0 < 1; omega
    | succ k ih => show 0 < (tkK B n nw k ++ tkP B (k + 1) n nw n).length; rw [List.length_append]; omega
  exact key _ _ _ _
theorem c_116l {d : Nat} {P : Int → qM → Prop} {M : qM} {W : qW} {m r k : Int} {c s : Nat} (g : WG W) (hr : 0 ≤ r ∧ r < w_nr W) (cx : w_ctx W M m r) (rd : w_rdy W M m r) (hk : 0 ≤ k ∧ k < 5) (wt : C_wt M m k (w_wt W r k) (w_tx W r) (w_T W r).length) (K : P ((mxI (w_wt W r k) (w_T W r).length : Nat) : Int) M) : ∀ (n i : Nat), i + n = (w_T W r).length → 0 < i → q_At q_m116 (q_WP q_Pr d) P 36 [(3, .inr (.inr m)), (4, .inr (.inr (m + 13 + k))), (5, .inl ((mxI (w_wt W r k) i : Nat) : Int)), (6, .inl (i : Int))] [] M c s := by
  have hm := cx.1.1
  have q := mw hm (i := k) hk.1 hk.2
  intro n
  induction n with
  | zero =>
    intro i h0 hp
    refine t_116_36 hm.1 ?_
    rw [show q_nm M m 3 = (w_T W r).length from rd.1.1]
    rw [← show i = (w_T W r).length by omega] at K ⊢
    exact ⟨mk0 hm, fun _ => K, fun z => absurd z (by omega)⟩
  | succ n ih =>
    intro i h0 hp
    have tk := tk_all g hr
    have ml := mxI_lt (w_wt W r k) i hp
    have nx := ih (i + 1) (by omega) (by omega)
    refine t_116_36 hm.1 ?_
    rw [q.2.1, q.2.2, show q_nm M m 3 = (w_T W r).length from rd.1.1, wt.1 i (by omega), wt.1 (mxI (w_wt W r k) i) (by omega), w32_id (x := (i : Int) + 1) (by omega) (by omega), show (i : Int) + 1 = ((i + 1 : Nat) : Int) by omega]
    refine ⟨mk0 hm, fun z => absurd z (by omega), fun _ => ⟨⟨rfl, by omega, by omega⟩, ⟨rfl, by omega, by omega⟩, fun z => ?_, fun z => ?_⟩⟩
    · rw [show mxI (w_wt W r k) (i + 1) = mxI (w_wt W r k) i by show (if _ then _ else _) = _; rw [if_neg (by omega)]] at nx; exact nx
    · rw [show mxI (w_wt W r k) (i + 1) = i by show (if _ then _ else _) = _; rw [if_pos z]] at nx; exact nx
theorem r_231l {d : Nat} {P : Int → qM → Prop} {M : qM} {W : qW} {r k : Int} {c s : Nat} (hl : q_lay M) (g : WG W) (hr : 0 ≤ r ∧ r < w_nr W) (rd : w_rd W M r) (wt : ∀ i : Nat, i < (w_T W r).length → q_nm M 118 i = w_wt W r k i) (K : P ((mxI (w_wt W r k) (w_T W r).length : Nat) : Int) M) : ∀ (n i : Nat), i + n = (w_T W r).length → 0 < i → q_At q_m231 (q_WP q_Pr d) P 32 [(0, .inr (.inr 66)), (3, .inl ((mxI (w_wt W r k) i : Nat) : Int)), (4, .inl (i : Int))] [] M c s := by
  intro n
  induction n with
  | zero =>
    intro i h0 hp
    refine t_231_32 hl ?_
    rw [show q_nm M 66 55 = (w_T W r).length from rd.2.2.2.1]
    rw [← show i = (w_T W r).length by omega] at K ⊢
    exact ⟨fun _ => K, fun z => absurd z (by omega)⟩
  | succ n ih =>
    intro i h0 hp
    have tk := tk_all g hr
    have ml := mxI_lt (w_wt W r k) i hp
    have nx := ih (i + 1) (by omega) (by omega)
    refine t_231_32 hl ?_
    rw [show q_nm M 66 55 = (w_T W r).length from rd.2.2.2.1, wt i (by omega), wt (mxI (w_wt W r k) i) (by omega), w32_id (x := (i : Int) + 1) (by omega) (by omega), show (i : Int) + 1 = ((i + 1 : Nat) : Int) by omega]
    refine ⟨fun z => absurd z (by omega), fun _ => ⟨by omega, by omega, fun z => ?_, fun z => ?_⟩⟩
    · rw [show mxI (w_wt W r k) (i + 1) = mxI (w_wt W r k) i by show (if _ then _ else _) = _; rw [if_neg (by omega)]] at nx; exact nx
    · rw [show mxI (w_wt W r k) (i + 1) = i by show (if _ then _ else _) = _; rw [if_pos z]] at nx; exact nx
theorem mxI1 (w : Nat → Int) : mxI w 1 = 0 := by
  show (if w 0 < w 0 then 0 else 0) = 0
  split <;> rfl
theorem ok_mostly' {L : Nat} {X : Int → Int} {D : Nat} : ∀ a b : Int, q_i32 a → q_i32 b → q_ok L X (INV L X) (D + 30) 116 231 [.inl a, .inl b] := by
  intro a b _ _
  refine q_okQ (fun W => cif ((w_mk W b ∧ (0 ≤ a ∧ a < w_nr W)) ∧ ¬ sumN (w_wt W a b) (w_T W a).length = 0) ((mxI (w_wt W a b) (w_T W a).length : Nat) : Int) (-1)) id (fun W g => g) (fun W M hl g h => ?_) (fun W M hl g h => ?_)
  · refine q_enter (t_116_0 hl (c_140W (d := D + 21) hl g h (fun mk hr M' f l w cx rd wt er e2 => ⟨l, fun z => absurd z (by have := q_ml_ge cx.1.1; omega), fun _ => ?_⟩) (fun hn => ⟨hl, fun _ => ⟨(cif_neg (fun q => hn q.1)).symm, kR_rfl hl, h⟩, fun z => absurd rfl z⟩)))
    have hm := cx.1.1
    have mk1 := mk.1
    have q := mw hm (i := b) (by omega) (by omega)
    rw [mr13 hm, mk3 hm, ml3 hm, mr14 hm, mk12 hm, ml12 hm, q.1, wt.2.1]
    refine ⟨mk0 hm, ⟨rfl, by omega, by omega⟩, fun z => ⟨mk0 hm, ⟨by omega, by omega, by omega⟩, ?_⟩, fun z => ⟨(cif_neg (fun q => q.2 z)).symm, kR_fr hl f, w⟩⟩
    rw [cif_pos ⟨⟨mk, hr⟩, z⟩]
    have p := tk_pos (W := W) (r := a)
    have r := c_116l (d := D + 29) (P := fun v M' => v = ((mxI (w_wt W a b) (w_T W a).length : Nat) : Int) ∧ kR M M' ∧ WC (id W) M') (c := 0) (s := 0) g hr cx rd (by omega) wt ⟨rfl, kR_fr hl f, w⟩ ((w_T W a).length - 1) 1 (by omega) (by omega)
    rw [mxI1] at r; exact r
  · refine q_enter (t_231_0 (d := D + 27) hl ?_)
    rw [h.2.2.1.1]
    refine ⟨g.2.2.1.1, fun hr => ⟨fun z => ?_, fun z => ⟨(cif_neg (fun q => z ((R_mk h).mpr q.1.1))).symm, fr_rfl, h⟩⟩, fun hr => ⟨(cif_neg (fun q => hr q.1.2)).symm, fr_rfl, h⟩⟩
    have mk := (R_mk h).mp z
    refine r_215W (d := D + 22) hl g h hr mk (fun M' f l w rd wt => ⟨l, fun x => ?_, fun x => ⟨(cif_neg (fun q => q.2 x)).symm, f, w⟩⟩)
    rw [cif_pos ⟨⟨mk, hr⟩, x⟩]
    have p := tk_pos (W := W) (r := a)
    have r := r_231l (d := D + 29) (P := fun v M' => v = ((mxI (w_wt W a b) (w_T W a).length : Nat) : Int) ∧ fr Zr M M' ∧ WR (id W) M') (c := 0) (s := 0) l g hr rd wt ⟨rfl, f, w⟩ ((w_T W a).length - 1) 1 (by omega) (by omega)
    rw [mxI1] at r; exact r
theorem r_225l {d : Nat} {P : Int → qM → Prop} {M : qM} {W : qW} {r k : Int} {c s : Nat} (hl : q_lay M) (g : WG W) (h : WR W M) (hr : 0 ≤ r ∧ r < w_nr W) (rd : w_rd W M r) (K : P (cN (kdP W r (w_sd W) k) (w_T W r).length) M) : ∀ (n i : Nat), i + n = (w_T W r).length → q_At q_m225 (q_WP q_Pr (d + 2)) P 33 [(0, .inr (.inr 66)), (2, .inl k), (3, .inl (cN (kdP W r (w_sd W) k) i)), (4, .inl (i : Int))] [] M c s := by
  intro n
  induction n with
  | zero =>
    intro i h0
    refine t_225_33 hl ?_
    rw [show q_nm M 66 55 = (w_T W r).length from rd.2.2.2.1]
    rw [← show i = (w_T W r).length by omega] at K ⊢
    exact ⟨fun _ => K, fun z => absurd z (by omega)⟩
  | succ n ih =>
    intro i h0
    have tk := tk_all g hr
    have hin : i < (w_T W r).length := by omega
    have cr := cN_rng (p := kdP W r (w_sd W) k) i
    have t1 := rd.2.2.2.2 i hin
    refine t_225_33 hl ?_
    rw [show q_nm M 66 55 = (w_T W r).length from rd.2.2.2.1, show q_nm M 108 i = (w_t W r i).1 from t1.1.1, w32_id (x := cN (kdP W r (w_sd W) k) i + 1) (by omega) (by omega), w32_id (x := (i : Int) + 1) (by omega) (by omega), show (i : Int) + 1 = ((i + 1 : Nat) : Int) by omega]
    have nx := ih (i + 1) (by omega)
    refine ⟨fun z => absurd z (by omega), fun _ => ⟨fun z => ?_, fun z => ⟨by omega, fun y => ?_, fun y => ?_⟩⟩⟩
    · refine r_224W hl g h hr rd hin (fun e => ⟨hl, fun q => absurd q (by decide), fun _ => ?_⟩) (fun e => ⟨hl, fun _ => ?_, fun q => absurd rfl q⟩)
      · rw [cN_t ⟨e, Or.inl z⟩] at nx; exact nx
      · rw [cN_f (fun q => e q.1)] at nx; exact nx
    · rw [cN_f (fun q => q.2.elim z y)] at nx; exact nx
    · refine r_224W hl g h hr rd hin (fun e => ⟨hl, fun q => absurd q (by decide), fun _ => ?_⟩) (fun e => ⟨hl, fun _ => ?_, fun q => absurd rfl q⟩)
      · rw [cN_t ⟨e, Or.inr y⟩] at nx; exact nx
      · rw [cN_f (fun q => e q.1)] at nx; exact nx
theorem ok_ways' {L : Nat} {X : Int → Int} {D : Nat} : ∀ a b : Int, q_i32 a → q_i32 b → q_ok L X (INV L X) (D + 30) 112 225 [.inl a, .inl b] := by
  intro a b _ _
  refine q_okQ (fun W => cif ((0 ≤ a ∧ a < w_nr W) ∧ (b = -1 ∨ (0 ≤ b ∧ b ≤ 8))) (cN (kdP W a (w_sd W) b) (w_T W a).length) (-1)) id (fun W g => g) (fun W M hl g h => ?_) (fun W M hl g h => ?_)
  · refine q_enter (t_112_0 (d := D + 28) hl (c_139W (d := D + 23) hl g h (fun hr M' f l w er cx rd e2 => ⟨l, fun z => absurd z (by have := q_ml_ge cx.1.1; omega), fun _ => ⟨fun y => ⟨mk0 cx.1.1, ?_⟩, fun y => ⟨fun x => ⟨mk0 cx.1.1, ?_⟩, fun x => ⟨(cif_neg (fun q => q.2.elim y x)).symm, kR_fr hl f, w⟩⟩⟩⟩) (fun hr => ⟨hl, fun _ => ⟨(cif_neg (fun q => hr q.1)).symm, kR_rfl hl, h⟩, fun z => absurd rfl z⟩)))
    · rw [cif_pos ⟨hr, Or.inl y⟩]
      exact c_20W (d := D + 26) cx rd (spk19 l g w) (fun v hf => ⟨l, mk0 cx.1.1, c_21W (d := D + 28) g hr cx rd hf ⟨l, rfl, kR_fr hl f, w⟩⟩)
    · rw [cif_pos ⟨hr, Or.inr x⟩]
      exact c_20W (d := D + 26) cx rd (spk19 l g w) (fun v hf => ⟨l, mk0 cx.1.1, c_21W (d := D + 28) g hr cx rd hf ⟨l, rfl, kR_fr hl f, w⟩⟩)
  · refine q_enter (t_225_0 (d := D + 27) hl ?_)
    rw [h.2.2.1.1]
    refine ⟨g.2.2.1.1, fun hr => ⟨fun y => r_201W (d := D + 23) hl g h hr (fun M' f l w rd => ⟨l, ?_⟩), fun y => ⟨fun x => r_201W (d := D + 23) hl g h hr (fun M' f l w rd => ⟨l, ?_⟩), fun x => ⟨(cif_neg (fun q => q.2.elim y x)).symm, fr_rfl, h⟩⟩⟩, fun hr => ⟨(cif_neg (fun q => hr q.1)).symm, fr_rfl, h⟩⟩
    · rw [cif_pos ⟨hr, Or.inl y⟩]
      exact r_225l (d := D + 27) l g w hr rd ⟨rfl, f, w⟩ (w_T W a).length 0 (by omega)
    · rw [cif_pos ⟨hr, Or.inr x⟩]
      exact r_225l (d := D + 27) l g w hr rd ⟨rfl, f, w⟩ (w_T W a).length 0 (by omega)
end
