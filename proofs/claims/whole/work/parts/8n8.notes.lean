section
theorem spkN {W : qW} {M : qM} (hl : q_lay M) (g : WG W) (w : WC W M) {j : Int} (hj : 0 ≤ j ∧ j < w_nn W) : spk M (q_rf M 23 j) (w_NL W j) := by
  have gn := g.2.2.2.2.1
  have g1 := gn.1
  have s := isSpN hl (i := j) hj.1 (by omega)
  rw [s.1]
  exact ⟨25 + 2 * j, s.2, (w.2.2.2.2.2.2.1.2 j hj.1 hj.2).2, (gn.2 j hj.1 hj.2).2.2⟩
noncomputable abbrev shN (W : qW) (k j : Int) : Int := shT (w_wt W (w_NR W j) k) (w_tx W (w_NR W j)) (w_NL W j) (w_T W (w_NR W j)).length
noncomputable abbrev smN (W : qW) (k j : Int) : Int := sumN (w_wt W (w_NR W j) k) (w_T W (w_NR W j)).length
theorem r_237l {d : Nat} {P : Int → qM → Prop} {M : qM} {W : qW} {r k j : Int} {c s : Nat} (hl : q_lay M) (g : WG W) (w : WR W M) (hr : 0 ≤ r ∧ r < w_nr W) (rd : w_rd W M r) (hj : 0 ≤ j ∧ j < w_nn W) (wt : ∀ i : Nat, i < (w_T W r).length → q_nm M 118 i = w_wt W r k i) (K : P (shT (w_wt W r k) (w_tx W r) (w_NL W j) (w_T W r).length) M) : ∀ (n i : Nat), i + n = (w_T W r).length → q_At q_m237 (q_WP q_Pr (d + 2)) P 20 [(0, .inr (.inr 66)), (1, .inl j), (3, .inl (shT (w_wt W r k) (w_tx W r) (w_NL W j) i)), (4, .inl (i : Int))] [] M c s := by
  intro n
  induction n with
  | zero =>
    intro i h0
    refine t_237_20 hl ?_
    rw [show q_nm M 66 55 = (w_T W r).length from rd.2.2.2.1]
    rw [← show i = (w_T W r).length by omega] at K ⊢
    exact ⟨fun _ => K, fun z => absurd z (by omega)⟩
  | succ n ih =>
    intro i h0
    have tk := tk_all g hr
    have hin : i < (w_T W r).length := by omega
    have s1 := w_sh (W := W) (r := r) (k := k) (sd := w_NL W j) (n := i + 1)
    have s2 := w_sum (k := k) g hr (n := i + 1) (by omega)
    refine t_237_20 hl ?_
    rw [show q_nm M 66 55 = (w_T W r).length from rd.2.2.2.1, w32_id (x := (i : Int) + 1) (by omega) (by omega), show (i : Int) + 1 = ((i + 1 : Nat) : Int) by omega]
    have nx := ih (i + 1) (by omega)
    refine ⟨fun z => absurd z (by omega), fun _ => ?_⟩
    refine r_236W hl g w hr rd hin hj (fun e => ⟨hl, fun q => absurd q (by decide), fun _ => ⟨by omega, ?_⟩⟩) (fun e => ⟨hl, fun _ => ?_, fun q => absurd rfl q⟩)
    · rw [wt i hin]
      rw [shT_t e] at nx s1
      rw [w32_id (by omega) (by omega)]; exact nx
    · rw [shT_f e] at nx; exact nx
theorem NR_ok {W : qW} (g : WG W) {j : Int} (hj : 0 ≤ j ∧ j < w_nn W) : 0 ≤ w_NR W j ∧ w_NR W j < w_nr W := (g.2.2.2.2.1.2 j hj.1 hj.2).1
theorem r_237W {d : Nat} {P : Int → qM → Prop} {M : qM} {W : qW} {k j : Int} (hl : q_lay M) (g : WG W) (w : WR W M) (mk : w_mk W k) (hj : 0 ≤ j ∧ j < w_nn W) (K : ∀ M', fr Zr M M' → q_lay M' → WR W M' → q_nm M' 66 77 = smN W k j → P (shN W k j) M') : q_WP q_Pr (d + 8) 237 [.inr (.inr 66), .inl j, .inl k] M P := by
  have g1 := g.2.2.2.2.1.1
  have hr := NR_ok g hj
  refine q_enter (t_237_0 hl ?_)
  rw [(w.2.2.2.2.2.2.1.2 j hj.1 hj.2).1]
  refine ⟨by omega, r_215W (d := d) hl g w hr mk (fun M' f l w' rd wt => ⟨l, fun M3 e3 l3 => ?_⟩)⟩
  have f3 : fr (fun a i => a = 66 ∧ i = 77) M' M3 := fr_wn e3 ⟨rfl, rfl⟩
  have rd3 := R_rdy_fr rd f3 (fun a i q => by omega)
  have w3 : WR W M3 := WR_Y w' f3 (fun a i q => by omega) hr rd3.2.1.1 rd3.2.1.2 rd3.2.2.2
  exact r_237l (d := d + 5) l3 g w3 hr rd3 hj (fun i hi => by rw [wn_ne e3 (by omega)]; exact wt i hi) (K M3 (fr_trans f (fr_mono f3 (fun a i q => by unfold Zr; omega))) l3 w3 (by rw [wn_eq e3])) (w_T W (w_NR W j)).length 0 (by omega)
noncomputable def thF (p : Nat → Prop) : Nat → Nat → Int
  | 0, _ => -1
  | f + 1, i => cif (p i) (i : Int) (thF p f (i + 1))
theorem thF_t {p : Nat → Prop} {f i : Nat} (h : p i) : thF p (f + 1) i = i := cif_pos h
theorem thF_f {p : Nat → Prop} {f i : Nat} (h : ¬ p i) : thF p (f + 1) i = thF p f (i + 1) := cif_neg h
theorem c_121l {d : Nat} {P : Int → qM → Prop} {M0 : qM} {W : qW} {k : Int} {c s : Nat} (g : WG W) (mk : w_mk W k) : ∀ (n y : Nat) (M : qM), (y : Int) + n = w_nn W → fr Zc M0 M → q_lay M → WC W M → (∀ M', fr Zc M0 M' → WC W M' → P (thF (fun j => shN W k j = 0) n y) M') → q_At q_m121 (q_WP q_Pr (d + 8)) P 12 [(0, .inr (.inr 0)), (1, .inl k), (2, .inl (y : Int))] [] M c s := by
  intro n
  induction n with
  | zero =>
    intro y M h1 f hl w K
    refine t_121_12 hl ?_
    rw [w.2.2.2.2.2.2.1.1]
    exact ⟨fun _ => K M f w, fun z => absurd z (by omega)⟩
  | succ n ih =>
    intro y M h1 f hl w K
    have g1 := g.2.2.2.2.1.1
    have hj : 0 ≤ (y : Int) ∧ (y : Int) < w_nn W := by omega
    have hr := NR_ok g hj
    have mk1 := mk.1
    refine t_121_12 hl ?_
    rw [w.2.2.2.2.2.2.1.1, w32_id (x := (y : Int) + 1) (by omega) (by omega), show (y : Int) + 1 = ((y + 1 : Nat) : Int) by omega, (w.2.2.2.2.2.2.1.2 y hj.1 hj.2).1]
    refine ⟨fun z => absurd z (by omega), fun _ => ⟨by omega, c_140W (d := d) hl g w (fun _ _ M' f' l' w' cx rd wt er e2 => ⟨l', fun z => absurd z (by have := q_ml_ge cx.1.1; omega), fun _ => ⟨by omega, mk0 cx.1.1, ?_⟩⟩) (fun hn => absurd ⟨mk, hr⟩ hn)⟩⟩
    refine c_27W (d := d + 4) g hr cx rd (by omega) wt (spkN l' g w' hj) ⟨l', fun z => ?_, fun z => ?_⟩
    · refine ih (y + 1) M' (by omega) (fr_trans f f') l' w' (fun M2 f2 w2 => ?_)
      have kk := K M2 f2 w2
      rw [thF_f z] at kk; exact kk
    · have kk := K M' (fr_trans f f') w'
      rw [thF_t z] at kk; exact kk
theorem r_238l {d : Nat} {P : Int → qM → Prop} {M0 : qM} {W : qW} {k : Int} {c s : Nat} (g : WG W) (mk : w_mk W k) : ∀ (n y : Nat) (M : qM), (y : Int) + n = w_nn W → fr Zr M0 M → q_lay M → WR W M → (∀ M', fr Zr M0 M' → WR W M' → P (thF (fun j => shN W k j = 0) n y) M') → q_At q_m238 (q_WP q_Pr (d + 8)) P 12 [(0, .inr (.inr 66)), (1, .inl k), (2, .inl (y : Int))] [] M c s := by
  intro n
  induction n with
  | zero =>
    intro y M h1 f hl w K
    refine t_238_12 hl ?_
    rw [w.2.2.2.2.2.2.1.1]
    exact ⟨fun _ => K M f w, fun z => absurd z (by omega)⟩
  | succ n ih =>
    intro y M h1 f hl w K
    have g1 := g.2.2.2.2.1.1
    have hj : 0 ≤ (y : Int) ∧ (y : Int) < w_nn W := by omega
    refine t_238_12 hl ?_
    rw [w.2.2.2.2.2.2.1.1, w32_id (x := (y : Int) + 1) (by omega) (by omega), show (y : Int) + 1 = ((y + 1 : Nat) : Int) by omega]
    refine ⟨fun z => absurd z (by omega), fun _ => r_237W (d := d) hl g w mk hj (fun M' f' l' w' _ => ⟨l', fun z => ?_, fun z => ?_⟩)⟩
    · refine ih (y + 1) M' (by omega) (fr_trans f f') l' w' (fun M2 f2 w2 => ?_)
      have kk := K M2 f2 w2
      rw [thF_f z] at kk; exact kk
    · have kk := K M' (fr_trans f f') w'
      rw [thF_t z] at kk; exact kk
theorem ok_thrown' {L : Nat} {X : Int → Int} {D : Nat} : ∀ a : Int, q_i32 a → q_ok L X (INV L X) (D + 30) 121 238 [.inl a] := by
  intro a _
  refine q_okQ (fun W => cif (w_mk W a) (thF (fun j => shN W a j = 0) (w_nn W).toNat 0) (-1)) id (fun W g => g) (fun W M hl g h => ?_) (fun W M hl g h => ?_)
  · have g1 := g.2.2.2.2.1.1
    refine q_enter (t_121_0 (d := D + 28) hl ⟨fun y => ?_, fun y => ⟨(cif_neg (fun mk => y ⟨mk.1, (C_mk h (by have := mk.1; omega)).mpr mk.2⟩)).symm, kR_rfl hl, h⟩⟩)
    have mk : w_mk W a := ⟨y.1, (C_mk h (by omega)).mp y.2⟩
    rw [cif_pos mk]
    exact c_121l (d := D + 21) (M0 := M) g mk (w_nn W).toNat 0 M (by omega) fr_rfl hl h (fun M' f w => ⟨rfl, kR_fr hl f, w⟩)
  · have g1 := g.2.2.2.2.1.1
    refine q_enter (t_238_0 (d := D + 27) hl ⟨fun y => ?_, fun y => ⟨(cif_neg (fun mk => y ((R_mk h).mpr mk))).symm, fr_rfl, h⟩⟩)
    have mk := (R_mk h).mp y
    rw [cif_pos mk]
    exact r_238l (d := D + 21) (M0 := M) g mk (w_nn W).toNat 0 M (by omega) fr_rfl hl h (fun M' f w => ⟨rfl, f, w⟩)
/-- which of two gives a note more -/
def t1 (x : Int) : Int := if x = 0 then 1 else x
def btV (sa sb ta tb : Int) : Prop := sb * t1 ta < sa * t1 tb
theorem w64_prod {x y : Int} (hx : 0 ≤ x ∧ x ≤ 640000) (hy : 0 ≤ y ∧ y ≤ 640000) : w64 (x * y) = x * y := by
  have a : 0 ≤ x * y := Int.mul_nonneg hx.1 hy.1
  have b : x * y ≤ 640000 * 640000 := Int.mul_le_mul hx.2 hy.2 hy.1 (by decide)
  exact w64_id (by omega) (by omega)
theorem c_29W {d : Nat} {P : Int → qM → Prop} {M : qM} {W : qW} {m r a b x : Int} {sd : List Int} (g : WG W) (hr : 0 ≤ r ∧ r < w_nr W) (cx : w_ctx W M m r) (rd : w_rdy W M m r) (ha : 0 ≤ a ∧ a < 5) (hb : 0 ≤ b ∧ b < 5) (wa : C_wt M m a (w_wt W r a) (w_tx W r) (w_T W r).length) (wb : C_wt M m b (w_wt W r b) (w_tx W r) (w_T W r).length) (hs : spk M x sd) (K1 : btV (shT (w_wt W r a) (w_tx W r) sd (w_T W r).length) (shT (w_wt W r b) (w_tx W r) sd (w_T W r).length) (sumN (w_wt W r a) (w_T W r).length) (sumN (w_wt W r b) (w_T W r).length) → P 1 M) (K0 : ¬ btV (shT (w_wt W r a) (w_tx W r) sd (w_T W r).length) (shT (w_wt W r b) (w_tx W r) sd (w_T W r).length) (sumN (w_wt W r a) (w_T W r).length) (sumN (w_wt W r b) (w_T W r).length) → P 0 M) : q_WP q_Pr (d + 4) 29 [.inr (.inr m), .inr (.inr x), .inl a, .inl b] M P := by
  have hm := cx.1.1
  have qa := ms hm (i := a) ha.1 ha.2
  have qb := ms hm (i := b) hb.1 hb.2
  have tk := tk_all g hr
  have sa := w_sum (k := a) g hr (n := (w_T W r).length) (Nat.le_refl _)
  have sb := w_sum (k := b) g hr (n := (w_T W r).length) (Nat.le_refl _)
  have ha2 := w_sh (W := W) (r := r) (k := a) (sd := sd) (n := (w_T W r).length)
  have hb2 := w_sh (W := W) (r := r) (k := b) (sd := sd) (n := (w_T W r).length)
  refine q_enter (t_29_0 (d := d + 2) hm (c_20W cx rd hs (fun v hf => ⟨hm, fun z => ?_, fun z => ?_⟩)))
  · rw [z] at hf
    refine K0 (fun q => ?_)
    unfold btV at q
    rw [shT_lead hf, shT_lead hf] at q
    omega
  · have w1 := wt_sh wa hf z
    have w2 := wt_sh wb hf z
    rw [qa.1, qa.2.1, qa.2.2, qb.1, qb.2.1, qb.2.2, w1.2, w2.2, wa.2.1, wb.2.1]
    generalize sumN (w_wt W r a) (w_T W r).length = ta at *
    generalize sumN (w_wt W r b) (w_T W r).length = tb at *
    generalize shT (w_wt W r a) (w_tx W r) sd (w_T W r).length = ea at *
    generalize shT (w_wt W r b) (w_tx W r) sd (w_T W r).length = eb at *
    have em : max 1 tb = t1 tb := by unfold t1; split <;> omega
    have tb1 : 0 ≤ t1 tb ∧ t1 tb ≤ 640000 := by unfold t1; split <;> omega
    refine ⟨ha, fun y => ?_, fun y => K0 (fun q => ?_)⟩
    · have e1 : t1 ta = ta := by unfold t1; rw [if_neg y]
      rw [em, w64_prod (by omega) tb1, w64_prod (x := eb) (by omega) (by omega)]
      refine ⟨hb, ha, ⟨rfl, by omega, by omega⟩, hb, ⟨rfl, by omega, by omega⟩, ha, fun v => K0 (fun q => ?_), fun v => K1 ?_⟩
      · unfold btV at q; rw [e1] at q; have := q_lc_le v; omega
      · unfold btV; rw [e1]; exact q_lc_pos v
    · unfold btV at q
      rw [show ea = 0 by omega, Int.zero_mul] at q
      have e1 : t1 ta = 1 := by unfold t1; rw [if_pos y]
      rw [e1] at q
      omega
def btN (W : qW) (a b : Int) (j : Nat) : Prop := btV (shN W a j) (shN W b j) (smN W a j) (smN W b j)
theorem c_122l {d : Nat} {P : Int → qM → Prop} {M0 : qM} {W : qW} {a b : Int} {c s : Nat} (g : WG W) (ma : w_mk W a) (mb : w_mk W b) (K : ∀ M', fr Zc M0 M' → WC W M' → P (cN (btN W a b) (w_nn W).toNat) M') : ∀ (n y : Nat) (M : qM), (y : Int) + n = w_nn W → fr Zc M0 M → q_lay M → WC W M → q_At q_m122 (q_WP q_Pr (d + 8)) P 23 [(0, .inr (.inr 0)), (1, .inl a), (2, .inl b), (3, .inl (cN (btN W a b) y)), (4, .inl (y : Int))] [] M c s := by
  intro n
  induction n with
  | zero =>
    intro y M h1 f hl w
    have kk := K M f w
    rw [show (w_nn W).toNat = y by omega] at kk
    refine t_122_23 hl ?_
    rw [w.2.2.2.2.2.2.1.1]
    exact ⟨fun _ => kk, fun z => absurd z (by omega)⟩
  | succ n ih =>
    intro y M h1 f hl w
    have g1 := g.2.2.2.2.1.1
    have hj : 0 ≤ (y : Int) ∧ (y : Int) < w_nn W := by omega
    have hr := NR_ok g hj
    have ma1 := ma.1
    have mb1 := mb.1
    have cr := cN_rng (p := btN W a b) y
    refine t_122_23 hl ?_
    rw [w.2.2.2.2.2.2.1.1, w32_id (x := (y : Int) + 1) (by omega) (by omega), show (y : Int) + 1 = ((y + 1 : Nat) : Int) by omega, (w.2.2.2.2.2.2.1.2 y hj.1 hj.2).1, w32_id (x := cN (btN W a b) y + 1) (by omega) (by omega)]
    refine ⟨fun z => absurd z (by omega), fun _ => ⟨by omega, c_141W (d := d) hl g w (fun _ M' f' l' w' cx rd wt => ⟨l', fun z => absurd z (by have := q_ml_ge cx.1.1; omega), fun _ => ⟨by omega, mk0 cx.1.1, ?_⟩⟩) (fun hn => absurd hr hn)⟩⟩
    have nx := ih (y + 1) M' (by omega) (fr_trans f f') l' w'
    refine c_29W (d := d + 4) g hr cx rd (by omega) (by omega) (wt a ma) (wt b mb) (spkN l' g w' hj) (fun q => ⟨l', fun z => absurd z (by decide), fun _ => ?_⟩) (fun q => ⟨l', fun _ => ?_, fun z => absurd rfl z⟩)
    · rw [cN_t (show btN W a b y from q)] at nx; exact nx
    · rw [cN_f (show ¬ btN W a b y from q)] at nx; exact nx
theorem r_239l {d : Nat} {P : Int → qM → Prop} {M0 : qM} {W : qW} {a b : Int} {c s : Nat} (g : WG W) (ma : w_mk W a) (mb : w_mk W b) (K : ∀ M', fr Zr M0 M' → WR W M' → P (cN (btN W a b) (w_nn W).toNat) M') : ∀ (n y : Nat) (M : qM), (y : Int) + n = w_nn W → fr Zr M0 M → q_lay M → WR W M → q_At q_m239 (q_WP q_Pr (d + 8)) P 23 [(0, .inr (.inr 66)), (1, .inl a), (2, .inl b), (3, .inl (cN (btN W a b) y)), (4, .inl (y : Int))] [] M c s := by
  intro n
  induction n with
  | zero =>
    intro y M h1 f hl w
    have kk := K M f w
    rw [show (w_nn W).toNat = y by omega] at kk
    refine t_239_23 hl ?_
    rw [w.2.2.2.2.2.2.1.1]
    exact ⟨fun _ => kk, fun z => absurd z (by omega)⟩
  | succ n ih =>
    intro y M h1 f hl w
    have g1 := g.2.2.2.2.1.1
    have hj : 0 ≤ (y : Int) ∧ (y : Int) < w_nn W := by omega
    have hr := NR_ok g hj
    have cr := cN_rng (p := btN W a b) y
    have sa := w_sum (k := a) g hr (n := (w_T W (w_NR W y)).length) (Nat.le_refl _)
    have sb := w_sum (k := b) g hr (n := (w_T W (w_NR W y)).length) (Nat.le_refl _)
    have ha2 := w_sh (W := W) (r := w_NR W y) (k := a) (sd := w_NL W y) (n := (w_T W (w_NR W y)).length)
    have hb2 := w_sh (W := W) (r := w_NR W y) (k := b) (sd := w_NL W y) (n := (w_T W (w_NR W y)).length)
    refine t_239_23 hl ?_
    rw [w.2.2.2.2.2.2.1.1, w32_id (x := (y : Int) + 1) (by omega) (by omega), show (y : Int) + 1 = ((y + 1 : Nat) : Int) by omega, w32_id (x := cN (btN W a b) y + 1) (by omega) (by omega)]
    have nx := fun M' f' l' w' => ih (y + 1) M' (by omega) f' l' w'
    have fin : ∀ M' (X1 X2 : Int), fr Zr M0 M' → q_lay M' → WR W M' → X1 = t1 (smN W a y) → X2 = t1 (smN W b y) → ((q_lc (w64 (shN W a y * X2)) (w64 (shN W b y * X1)) ≤ 0 → q_At q_m239 (q_WP q_Pr (d + 8)) P 23 [(0, .inr (.inr 66)), (1, .inl a), (2, .inl b), (3, .inl (cN (btN W a b) y)), (4, .inl ((y + 1 : Nat) : Int))] [] M' c s) ∧ (0 < q_lc (w64 (shN W a y * X2)) (w64 (shN W b y * X1)) → q_At q_m239 (q_WP q_Pr (d + 8)) P 23 [(0, .inr (.inr 66)), (1, .inl a), (2, .inl b), (3, .inl (cN (btN W a b) y + 1)), (4, .inl ((y + 1 : Nat) : Int))] [] M' c s)) := fun M' X1 X2 f' l' w' e1 e2 => by
      have t1r : 0 ≤ X1 ∧ X1 ≤ 640000 := by rw [e1]; unfold t1; split <;> omega
      have t2r : 0 ≤ X2 ∧ X2 ≤ 640000 := by rw [e2]; unfold t1; split <;> omega
      have nx' := nx M' f' l' w'
      rw [w64_prod (x := shN W a y) ⟨ha2.1, Int.le_trans ha2.2 sa.2⟩ t2r, w64_prod (x := shN W b y) ⟨hb2.1, Int.le_trans hb2.2 sb.2⟩ t1r]
      refine ⟨fun z => ?_, fun z => ?_⟩
      · have z' := q_lc_le z
        rw [cN_f (fun q => by unfold btN btV at q; rw [← e1, ← e2] at q; omega)] at nx'; exact nx'
      · have z' := q_lc_pos z
        rw [cN_t (by unfold btN btV; rw [← e1, ← e2]; exact z')] at nx'; exact nx'
    refine ⟨fun z => absurd z (by omega), fun _ => r_237W (d := d) hl g w ma hj (fun M2 f2 l2 w2 e2 => ⟨l2, fun z => ?_, fun z => ?_⟩)⟩
    · refine r_237W (d := d) l2 g w2 mb hj (fun M4 f4 l4 w4 e4 => ⟨l4, fun v => ?_, fun v => ?_⟩)
      · exact fin M4 _ _ (fr_trans f (fr_trans f2 f4)) l4 w4 (by rw [e2] at z ⊢; unfold t1; rw [if_neg z]) (by rw [e4] at v ⊢; unfold t1; rw [if_neg v])
      · exact fin M4 _ _ (fr_trans f (fr_trans f2 f4)) l4 w4 (by rw [e2] at z ⊢; unfold t1; rw [if_neg z]) (by rw [e4] at v; unfold t1; rw [if_pos v])
    · refine r_237W (d := d) l2 g w2 mb hj (fun M4 f4 l4 w4 e4 => ⟨l4, fun v => ?_, fun v => ?_⟩)
      · exact fin M4 _ _ (fr_trans f (fr_trans f2 f4)) l4 w4 (by rw [e2] at z; unfold t1; rw [if_pos z]) (by rw [e4] at v ⊢; unfold t1; rw [if_neg v])
      · exact fin M4 _ _ (fr_trans f (fr_trans f2 f4)) l4 w4 (by rw [e2] at z; unfold t1; rw [if_pos z]) (by rw [e4] at v; unfold t1; rw [if_pos v])
theorem ok_better' {L : Nat} {X : Int → Int} {D : Nat} : ∀ a b : Int, q_i32 a → q_i32 b → q_ok L X (INV L X) (D + 30) 122 239 [.inl a, .inl b] := by
  intro a b _ _
  refine q_okQ (fun W => cif (w_mk W a ∧ w_mk W b) (cN (btN W a b) (w_nn W).toNat) (-1)) id (fun W g => g) (fun W M hl g h => ?_) (fun W M hl g h => ?_)
  · have g1 := g.2.2.2.2.1.1
    have mkI : ∀ k, w_mk W k → ((0 ≤ k ∧ k < 4) ∧ ¬ q_rf M 14 k = -1) := fun k mk => ⟨mk.1, (C_mk h (by have := mk.1; omega)).mpr mk.2⟩
    have mkE : ∀ k, ((0 ≤ k ∧ k < 4) ∧ ¬ q_rf M 14 k = -1) → w_mk W k := fun k y => ⟨y.1, (C_mk h (by omega)).mp y.2⟩
    refine q_enter (t_122_0 (d := D + 28) hl ⟨fun y => ⟨fun z => ?_, fun z => ⟨(cif_neg (fun q => z (mkI b q.2))).symm, kR_rfl hl, h⟩⟩, fun y => ⟨(cif_neg (fun q => y (mkI a q.1))).symm, kR_rfl hl, h⟩⟩)
    rw [cif_pos ⟨mkE a y, mkE b z⟩]
    exact c_122l (d := D + 21) (M0 := M) g (mkE a y) (mkE b z) (fun M' f w => ⟨rfl, kR_fr hl f, w⟩) (w_nn W).toNat 0 M (by omega) fr_rfl hl h
  · have g1 := g.2.2.2.2.1.1
    refine q_enter (t_239_0 (d := D + 27) hl ⟨fun y => ⟨fun z => ?_, fun z => ⟨(cif_neg (fun q => z ((R_mk h).mpr q.2))).symm, fr_rfl, h⟩⟩, fun y => ⟨(cif_neg (fun q => y ((R_mk h).mpr q.1))).symm, fr_rfl, h⟩⟩)
    have ma := (R_mk h).mp y
    have mb := (R_mk h).mp z
    rw [cif_pos ⟨ma, mb⟩]
    exact r_239l (d := D + 21) (M0 := M) g ma mb (fun M' f w => ⟨rfl, f, w⟩) (w_nn W).toNat 0 M (by omega) fr_rfl hl h
end
