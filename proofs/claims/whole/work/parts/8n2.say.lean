section
def pkF (w : Nat → Int) (x : Int) : Nat → Nat → Nat
  | 0, i => i
  | f + 1, i => if x < sumN w (i + 1) then i else pkF w x f (i + 1)
theorem pkF_lt {w : Nat → Int} {x : Int} : ∀ (f i : Nat), sumN w i ≤ x → x < sumN w (i + f) → pkF w x f i < i + f := by
  intro f
  induction f with
  | zero => intro i a b; rw [Nat.add_zero] at b; exact absurd b (by omega)
  | succ f ih =>
    intro i a b
    unfold pkF
    by_cases e : x < sumN w (i + 1)
    · rw [if_pos e]; omega
    · rw [if_neg e]
      have := ih (i + 1) (by omega) (by rw [show i + 1 + f = i + (f + 1) by omega]; exact b)
      omega
def sayU (c : Int) : Int := w64 (Int.tdiv (Int.tmod (w64 ((w64 ((1103515245 : Int) * c)) + (12345 : Int))) (2147483648 : Int)) (256 : Int))
theorem sayU_nn {c : Int} (h0 : 0 ≤ c) (hc : q_i32 c) : 0 ≤ sayU c := by
  unfold q_i32 at hc
  have e1 : w64 ((1103515245 : Int) * c) = 1103515245 * c := by unfold w64; omega
  have e2 : w64 (1103515245 * c + 12345) = 1103515245 * c + 12345 := by unfold w64; omega
  unfold sayU
  rw [e1, e2]
  have a1 : 0 ≤ Int.tmod (1103515245 * c + 12345) 2147483648 := Int.tmod_nonneg _ (by omega)
  have a2 : Int.tmod (1103515245 * c + 12345) 2147483648 < 2147483648 := Int.tmod_lt_of_pos _ (by decide)
  have b1 : 0 ≤ Int.tdiv (Int.tmod (1103515245 * c + 12345) 2147483648) 256 := Int.tdiv_nonneg a1 (by decide)
  have b2 : Int.tdiv (Int.tmod (1103515245 * c + 12345) 2147483648) 256 ≤ Int.tmod (1103515245 * c + 12345) 2147483648 := by rw [Int.tdiv_eq_ediv_of_nonneg a1]; omega
  generalize Int.tdiv (Int.tmod (1103515245 * c + 12345) 2147483648) 256 = v at b1 b2 ⊢
  unfold w64; omega
theorem w_wt_rng (W : qW) (r k : Int) (i : Nat) : 0 ≤ w_wt W r k i ∧ w_wt W r k i ≤ 1000 := wT_rng _ _ _ _ _ _ _ _
theorem w_sum {W : qW} {r k : Int} (g : WG W) (hr : 0 ≤ r ∧ r < w_nr W) {n : Nat} (hn : n ≤ (w_T W r).length) : 0 ≤ sumN (w_wt W r k) n ∧ sumN (w_wt W r k) n ≤ 640000 := by
  have := sumN_rng (w := w_wt W r k) (w_wt_rng W r k) n
  have t := tk_all g hr
  omega
theorem c_25l {d : Nat} {P : Int → qM → Prop} {M : qM} {W : qW} {m r k x : Int} {c s : Nat} (g : WG W) (hr : 0 ≤ r ∧ r < w_nr W) (cx : w_ctx W M m r) (rd : w_rdy W M m r) (hk : 0 ≤ k ∧ k < 5) (wt : C_wt M m k (w_wt W r k) (w_tx W r) (w_T W r).length) (hx : x < sumN (w_wt W r k) (w_T W r).length) (K : P ((pkF (w_wt W r k) x (w_T W r).length 0 : Nat) : Int) M) : ∀ (n i : Nat), i + n = (w_T W r).length → sumN (w_wt W r k) i ≤ x → pkF (w_wt W r k) x n i = pkF (w_wt W r k) x (w_T W r).length 0 → q_At q_m25 (q_WP q_Pr d) P 6 [(0, .inr (.inr m)), (1, .inl k), (2, .inr (.inl x)), (4, .inr (.inl (sumN (w_wt W r k) i))), (6, .inl (i : Int))] [] M c s := by
  intro n
  induction n with
  | zero =>
    intro i h0 h1 h2
    rw [show i = (w_T W r).length by omega] at h1
    exact absurd hx (by omega)
  | succ n ih =>
    intro i h0 h1 h2
    have tk := tk_all g hr
    have hm := cx.1.1
    have q := mw hm (i := k) hk.1 hk.2
    have s1 := w_sum (k := k) g hr (n := i + 1) (by omega)
    have s2 : sumN (w_wt W r k) (i + 1) = sumN (w_wt W r k) i + w_wt W r k i := rfl
    refine t_25_6 hm ?_
    rw [show q_nm M m 3 = (w_T W r).length from rd.1.1, q.1, q.2.1, q.2.2, wt.1 i (by omega), ← s2, w64_id (x := sumN (w_wt W r k) (i + 1)) (by omega) (by omega), w32_id (x := (i : Int) + 1) (by omega) (by omega)]
    refine ⟨fun z => absurd z (by omega), fun _ => ⟨hk, ⟨rfl, by omega, by omega⟩, fun z => ?_, fun z => ?_⟩⟩
    · have z' := q_lc_nn z
      rw [show (i : Int) + 1 = ((i + 1 : Nat) : Int) by omega]
      refine ih (i + 1) (by omega) z' ?_
      rw [← h2]
      show _ = (if x < sumN (w_wt W r k) (i + 1) then i else pkF (w_wt W r k) x n (i + 1))
      rw [if_neg (by omega)]
    · have z' := q_lc_neg z
      have e : pkF (w_wt W r k) x (n + 1) i = i := by
        show (if x < sumN (w_wt W r k) (i + 1) then i else pkF (w_wt W r k) x n (i + 1)) = i
        rw [if_pos z']
      rw [← h2, e] at K; exact K
noncomputable abbrev sayX (W : qW) (a b c : Int) : Int := Int.tmod (sayU c) (sumN (w_wt W a b) (w_T W a).length)
noncomputable abbrev sayI (W : qW) (a b c : Int) : Nat := pkF (w_wt W a b) (sayX W a b c) (w_T W a).length 0
def sayP (W : qW) (a b c : Int) : Prop := (w_mk W b ∧ (0 ≤ a ∧ a < w_nr W)) ∧ 0 ≤ c ∧ 0 < sumN (w_wt W a b) (w_T W a).length
theorem sayX_rng {W : qW} {a b c : Int} (hc : q_i32 c) (h : sayP W a b c) : 0 ≤ sayX W a b c ∧ sayX W a b c < sumN (w_wt W a b) (w_T W a).length := ⟨Int.tmod_nonneg _ (sayU_nn h.2.1 hc), Int.tmod_lt_of_pos _ h.2.2⟩
theorem sayI_lt {W : qW} {a b c : Int} (hc : q_i32 c) (h : sayP W a b c) : sayI W a b c < (w_T W a).length := by
  have x := sayX_rng hc h
  have := pkF_lt (w := w_wt W a b) (x := sayX W a b c) (w_T W a).length 0 x.1 (by rw [Nat.zero_add]; exact x.2)
  show pkF _ _ _ _ < _
  omega
theorem r_220l {d : Nat} {P : Int → qM → Prop} {M : qM} {W : qW} {r k x : Int} {c s : Nat} (hl : q_lay M) (g : WG W) (hr : 0 ≤ r ∧ r < w_nr W) (rd : R_rdy M (w_nw W) (w_WL W) (w_WS W) (w_WE W) (w_WO W) r (w_RL W r)) (wt : ∀ i : Nat, i < (w_T W r).length → q_nm M 118 i = w_wt W r k i) (hx : x < sumN (w_wt W r k) (w_T W r).length) (K : ∀ i : Nat, i < (w_T W r).length → i = pkF (w_wt W r k) x (w_T W r).length 0 → ∀ M', fr (fun a j => (a = 66 ∧ j = 71) ∨ a = 119) M M' → R_S (w_tx W r i) M' → P (i : Int) M') : ∀ (n i : Nat), i + n = (w_T W r).length → sumN (w_wt W r k) i ≤ x → pkF (w_wt W r k) x n i = pkF (w_wt W r k) x (w_T W r).length 0 → q_At q_m220 (q_WP q_Pr (d + 1)) P 69 [(0, .inr (.inr 66)), (7, .inl (x - sumN (w_wt W r k) i)), (8, .inl (i : Int))] [] M c s := by
  intro n
  induction n with
  | zero =>
    intro i h0 h1 h2
    rw [show i = (w_T W r).length by omega] at h1
    exact absurd hx (by omega)
  | succ n ih =>
    intro i h0 h1 h2
    have tk := tk_all g hr
    have s0 := w_sum (k := k) g hr (n := (w_T W r).length) (Nat.le_refl _)
    have s1 := w_sum (k := k) g hr (n := i + 1) (by omega)
    have s3 := w_sum (k := k) g hr (n := i) (by omega)
    have s2 : sumN (w_wt W r k) (i + 1) = sumN (w_wt W r k) i + w_wt W r k i := rfl
    have hin : i < (w_T W r).length := by omega
    have t1 := rd.2.2.2.2 i hin
    refine t_220_69 hl ?_
    rw [wt i (by omega), show x - sumN (w_wt W r k) i - w_wt W r k i = x - sumN (w_wt W r k) (i + 1) by omega, w32_id (x := x - sumN (w_wt W r k) (i + 1)) (by omega) (by omega), w32_id (x := (i : Int) + 1) (by omega) (by omega)]
    refine ⟨by omega, fun z => ?_, fun z => ⟨by omega, ?_⟩⟩
    · have e : pkF (w_wt W r k) x (n + 1) i = i := by
        show (if x < sumN (w_wt W r k) (i + 1) then i else pkF (w_wt W r k) x n (i + 1)) = i
        rw [if_pos (by omega)]
      exact r_218 (sd := w_tx W r i) hl (by omega) (tx_G g hr (by omega)).1.1 t1.2.1 t1.2.2.1 (fun M2 f2 s2 => ⟨fr_lay f2 hl, K i (by omega) (e.symm.trans h2) M2 f2 s2⟩)
    · rw [show (i : Int) + 1 = ((i + 1 : Nat) : Int) by omega]
      refine ih (i + 1) (by omega) (by omega) ?_
      rw [← h2]
      show _ = (if x < sumN (w_wt W r k) (i + 1) then i else pkF (w_wt W r k) x n (i + 1))
      rw [if_neg (by omega)]
theorem ok_say' {L : Nat} {X : Int → Int} {D : Nat} : ∀ a b c : Int, q_i32 a → q_i32 b → q_i32 c → q_ok L X (INV L X) (D + 30) 109 220 [.inl a, .inl b, .inl c] := by
  intro a b c _ _ hc
  refine q_okQ (fun W => cif (sayP W a b c) ((sayI W a b c : Nat) : Int) (-1)) (fun W => cif (sayP W a b c) (w_setS W (w_tx W a (sayI W a b c))) W) (fun W g => ?_) (fun W M hl g h => ?_) (fun W M hl g h => ?_)
  · by_cases e : sayP W a b c
    · rw [cif_pos e]; exact WG_S g (tx_G g e.1.2 (sayI_lt hc e)).1
    · rw [cif_neg e]; exact g
  · refine q_enter (t_109_0 hl (c_140W (d := D + 21) hl g h (fun mk hr M' f l w cx rd wt er e2 => ⟨l, fun z => absurd z (by have := q_ml_ge cx.1.1; omega), fun _ => ?_⟩) (fun hn => ⟨hl, fun _ => ⟨(cif_neg (fun q => hn q.1)).symm, kR_rfl hl, by rw [cif_neg (fun q => hn q.1)]; exact h⟩, fun z => absurd rfl z⟩)))
    have tk := tk_all g hr
    have hm := cx.1.1
    have mk1 := mk.1
    have kr := kR_fr hl f
    rw [mr13 hm, mk3 hm, ml3 hm, wt.2.1]
    have nop : ¬ sayP W a b c → (-1 : Int) = cif (sayP W a b c) ((sayI W a b c : Nat) : Int) (-1) ∧ kR M M' ∧ WC (cif (sayP W a b c) (w_setS W (w_tx W a (sayI W a b c))) W) M' := fun e => ⟨(cif_neg e).symm, kr, by rw [cif_neg e]; exact w⟩
    refine ⟨fun z => nop (fun e => by have := e.2.1; omega), fun z => ⟨mk0 hm, ⟨rfl, by omega, by omega⟩, fun y => ?_, fun y => nop (fun e => by have := e.2.2; omega)⟩⟩
    have e : sayP W a b c := ⟨⟨mk, hr⟩, z, y⟩
    have il := sayI_lt hc e
    have xr := sayX_rng hc e
    refine ⟨mk0 hm, ⟨rfl, by omega, by omega⟩, by omega, mk0 hm, ?_⟩
    refine q_enter (d := D + 28) (t_25_0 hm (c_25l (d := D + 28) g hr cx rd (by omega) wt xr.2 ⟨l, fun v => absurd v (by omega), fun _ => ⟨mk0 hm, ?_⟩⟩ (w_T W a).length 0 (by omega) xr.1 rfl))
    have ir : (0 : Int) ≤ ((sayI W a b c : Nat) : Int) ∧ ((sayI W a b c : Nat) : Int) < mst (w_RL W a).length := by omega
    refine c_18 (d := D + 27) cx ir (rd.1.2 _ il) (tk.1 _ (getT_mem il)) (fun M2 f2 s2 => ⟨fr_lay f2 l, ?_⟩)
    rw [cif_pos e, cif_pos e]
    exact ⟨rfl, kR_fr hl (fr_trans f (fr_mono f2 (fun x j q => by unfold ZP2 at q; unfold Zc; omega))), WC_S g w f2 (fun x j q => by unfold ZP2 at q; omega) s2⟩
  · refine q_enter (t_220_0 (d := D + 27) hl ?_)
    rw [h.2.2.1.1]
    have nop : ∀ M', fr Zr M M' → WR W M' → ¬ sayP W a b c → (-1 : Int) = cif (sayP W a b c) ((sayI W a b c : Nat) : Int) (-1) ∧ fr Zr M M' ∧ WR (cif (sayP W a b c) (w_setS W (w_tx W a (sayI W a b c))) W) M' := fun M' f w e => ⟨(cif_neg e).symm, f, by rw [cif_neg e]; exact w⟩
    refine ⟨g.2.2.1.1, fun hr => ⟨fun z => ⟨fun y => ?_, fun y => nop M fr_rfl h (fun e => by have := e.2.1; omega)⟩, fun z => nop M fr_rfl h (fun e => z ((R_mk h).mpr e.1.1))⟩, fun hr => nop M fr_rfl h (fun e => hr e.1.2)⟩
    have mk := (R_mk h).mp z
    refine r_215W (d := D + 22) hl g h hr mk (fun M' f l w rd wt => ⟨l, fun x => ?_, fun x => nop M' f w (fun e => by have := e.2.2; omega)⟩)
    have sr := w_sum (k := b) g hr (n := (w_T W a).length) (Nat.le_refl _)
    have e : sayP W a b c := ⟨⟨mk, hr⟩, y, by omega⟩
    have xr := sayX_rng hc e
    refine ⟨x, ?_⟩
    show q_At q_m220 _ _ _ [_, (7, .inl (w32 (sayX W a b c))), _] _ _ _ _
    rw [w32_id (x := sayX W a b c) (by omega) (by omega), show sayX W a b c = sayX W a b c - sumN (w_wt W a b) 0 from (Int.sub_zero _).symm]
    refine r_220l (d := D + 28) (r := a) (k := b) (x := sayX W a b c) l g hr rd wt xr.2 (fun i hi ei M2 f2 s2 => ?_) (w_T W a).length 0 (by omega) xr.1 rfl
    rw [cif_pos e, cif_pos e]
    rw [ei] at s2 ⊢
    exact ⟨rfl, fr_trans f (fr_mono f2 (fun x j q => by unfold Zr; omega)), WR_S w f2 (fun x j q => q) s2⟩
end
