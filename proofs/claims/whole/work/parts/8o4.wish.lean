section
theorem bit0 : ∀ x : Fin 10, ¬ q_and (q_shr 0 (x.val : Int)) 1 = 1 := by decide +kernel
theorem bit1 : ∀ a x : Fin 10, q_and (q_shr (q_or 0 (q_shl 1 (a.val : Int))) (x.val : Int)) 1 = 1 ↔ a.val = x.val := by decide +kernel
theorem bit2 : ∀ a b x : Fin 10, q_and (q_shr (q_or (q_or 0 (q_shl 1 (a.val : Int))) (q_shl 1 (b.val : Int))) (x.val : Int)) 1 = 1 ↔ (a.val = x.val ∨ b.val = x.val) := by decide +kernel
theorem bit0' {x : Int} (hx : 0 ≤ x ∧ x < 10) : ¬ q_and (q_shr 0 x) 1 = 1 := by
  have h := bit0 ⟨x.toNat, by omega⟩
  dsimp only at h
  rwa [show ((x.toNat : Nat) : Int) = x by omega] at h
theorem bit1' {a x : Int} (ha : 0 ≤ a ∧ a < 10) (hx : 0 ≤ x ∧ x < 10) : q_and (q_shr (q_or 0 (q_shl 1 a)) x) 1 = 1 ↔ a = x := by
  have h := bit1 ⟨a.toNat, by omega⟩ ⟨x.toNat, by omega⟩
  dsimp only at h
  rw [show ((x.toNat : Nat) : Int) = x by omega, show ((a.toNat : Nat) : Int) = a by omega] at h
  rw [h]; omega
theorem bit2' {a b x : Int} (ha : 0 ≤ a ∧ a < 10) (hb : 0 ≤ b ∧ b < 10) (hx : 0 ≤ x ∧ x < 10) : q_and (q_shr (q_or (q_or 0 (q_shl 1 a)) (q_shl 1 b)) x) 1 = 1 ↔ (a = x ∨ b = x) := by
  have h := bit2 ⟨a.toNat, by omega⟩ ⟨b.toNat, by omega⟩ ⟨x.toNat, by omega⟩
  dsimp only at h
  rw [show ((x.toNat : Nat) : Int) = x by omega, show ((a.toNat : Nat) : Int) = a by omega, show ((b.toNat : Nat) : Int) = b by omega] at h
  rw [h]; omega
def snP (nw : Int) (WL : Int → List Int) (WE : Int → Int) (l : List Int) (x : Int) : Prop := ∃ w, (0 ≤ w ∧ w < nw) ∧ WL w = l ∧ WE w = x
theorem num_iff {nw : Int} {WL : Int → List Int} {WS WE WO : Int → Int} (gW : G_W nw WL WS WE WO) {l : List Int} {v x : Int} (h : isNum nw WL l v) : snP nw WL WE l x ↔ (v ≠ -1 ∧ WE v = x) := by
  rcases h with ⟨a, b⟩ | ⟨a, b⟩
  · constructor
    · rintro ⟨w, c, e, f⟩
      rw [gW.2.2 v w a.1 a.2 c.1 c.2 (b.trans e.symm)]
      exact ⟨by omega, f⟩
    · rintro ⟨_, f⟩; exact ⟨v, a, b, f⟩
  · exact ⟨fun ⟨w, c, e, _⟩ => absurd e (b w c.1 c.2), fun q => absurd a q.1⟩
theorem num_rng {nw : Int} {WL : Int → List Int} {WS WE WO : Int → Int} (gW : G_W nw WL WS WE WO) {l : List Int} {v : Int} (h : isNum nw WL l v) (hv : v ≠ -1) : 0 ≤ WE v ∧ WE v < 10 := by
  rcases h with ⟨a, b⟩ | ⟨a, b⟩
  · have := (gW.2.1 v a.1 a.2).2.2.1; omega
  · exact absurd a hv
def hasS (nw : Int) (WL : Int → List Int) (WE : Int → Int) (ln : List Int) (t : qT) (x : Int) : Prop := t.1 ≠ 0 ∧ (snP nw WL WE (pie WL ln t t.2.1) x ∨ ((t.1 = 3 ∨ t.1 = 4) ∧ snP nw WL WE (pie WL ln t t.2.2) x))
theorem sen_iff {nw : Int} {WL : Int → List Int} {WS WE WO : Int → Int} (gW : G_W nw WL WS WE WO) {ln : List Int} {t : qT} {v x : Int} (h : senV nw WL WE ln t v) (hx : 0 ≤ x ∧ x < 10) : q_and (q_shr v x) 1 = 1 ↔ hasS nw WL WE ln t x := by
  by_cases e0 : t.1 = 0
  · rw [h.1 e0]
    exact ⟨fun q => absurd q (bit0' hx), fun q => absurd e0 q.1⟩
  · obtain ⟨v1, n1, h1, h2⟩ := h.2 e0
    by_cases e34 : t.1 = 3 ∨ t.1 = 4
    · obtain ⟨v2, n2, ev⟩ := h2 e34
      have i1 := num_iff (x := x) gW n1
      have i2 := num_iff (x := x) gW n2
      have key : hasS nw WL WE ln t x ↔ ((v1 ≠ -1 ∧ WE v1 = x) ∨ (v2 ≠ -1 ∧ WE v2 = x)) := by
        unfold hasS
        rw [i1, i2]
        exact ⟨fun q => q.2.imp id (fun z => z.2), fun q => ⟨e0, q.imp id (fun z => ⟨e34, z⟩)⟩⟩
      rw [key, ev]
      unfold or1
      by_cases a1 : v1 = -1
      · rw [if_pos a1]
        by_cases a2 : v2 = -1
        · rw [if_pos a2]; exact ⟨fun q => absurd q (bit0' hx), fun q => q.elim (fun z => absurd a1 z.1) (fun z => absurd a2 z.1)⟩
        · rw [if_neg a2, bit1' (num_rng gW n2 a2) hx]
          exact ⟨fun q => Or.inr ⟨a2, q⟩, fun q => q.elim (fun z => absurd a1 z.1) (fun z => z.2)⟩
      · rw [if_neg a1]
        by_cases a2 : v2 = -1
        · rw [if_pos a2, bit1' (num_rng gW n1 a1) hx]
          exact ⟨fun q => Or.inl ⟨a1, q⟩, fun q => q.elim (fun z => z.2) (fun z => absurd a2 z.1)⟩
        · rw [if_neg a2, bit2' (num_rng gW n1 a1) (num_rng gW n2 a2) hx]
          exact ⟨fun q => q.imp (fun z => ⟨a1, z⟩) (fun z => ⟨a2, z⟩), fun q => q.imp (fun z => z.2) (fun z => z.2)⟩
    · have i1 := num_iff (x := x) gW n1
      have key : hasS nw WL WE ln t x ↔ (v1 ≠ -1 ∧ WE v1 = x) := by
        unfold hasS
        rw [i1]
        exact ⟨fun q => q.2.elim id (fun z => absurd z.1 e34), fun q => ⟨e0, Or.inl q⟩⟩
      rw [key, h1 e34]
      unfold or1
      by_cases a1 : v1 = -1
      · rw [if_pos a1]; exact ⟨fun q => absurd q (bit0' hx), fun q => absurd a1 q.1⟩
      · rw [if_neg a1, bit1' (num_rng gW n1 a1) hx]
        exact ⟨fun q => ⟨a1, q⟩, fun q => q.2⟩
abbrev w_has (W : qW) (r x : Int) (i : Nat) : Prop := hasS (w_nw W) (w_WL W) (w_WE W) (w_RL W r) (w_t W r i) x
noncomputable def wsT (W : qW) (r k x : Int) (n : Nat) : Int := sumN (fun i => cif (w_has W r x i) (w_wt W r k i) 0) n
theorem wsT_t {W : qW} {r k x : Int} {n : Nat} (h : w_has W r x n) : wsT W r k x (n + 1) = wsT W r k x n + w_wt W r k n := by
  show _ + cif _ _ _ = _; rw [cif_pos h]; rfl
theorem wsT_f {W : qW} {r k x : Int} {n : Nat} (h : ¬ w_has W r x n) : wsT W r k x (n + 1) = wsT W r k x n := by
  show _ + cif _ _ _ = _; rw [cif_neg h]; exact Int.add_zero _
theorem wsT_rng {W : qW} {r k x : Int} : ∀ n : Nat, 0 ≤ wsT W r k x n ∧ wsT W r k x n ≤ sumN (w_wt W r k) n := by
  intro n
  induction n with
  | zero => exact ⟨Int.le_refl 0, Int.le_refl 0⟩
  | succ n ih =>
    have wr := w_wt_rng W r k n
    have e : sumN (w_wt W r k) (n + 1) = sumN (w_wt W r k) n + w_wt W r k n := rfl
    by_cases h : w_has W r x n
    · rw [wsT_t h]; omega
    · rw [wsT_f h]; omega
theorem c_129l {d : Nat} {P : Int → qM → Prop} {M : qM} {W : qW} {m r k x o : Int} {c s : Nat} (g : WG W) (hr : 0 ≤ r ∧ r < w_nr W) (cx : w_ctx W M m r) (rd : w_rdy W M m r) (hk : 0 ≤ k ∧ k < 5) (hx : 0 ≤ x ∧ x < 10) (wt : C_wt M m k (w_wt W r k) (w_tx W r) (w_T W r).length) (K : P (lowV (wsT W r k x (w_T W r).length) (sumN (w_wt W r k) (w_T W r).length) o) M) : ∀ (n i : Nat), i + n = (w_T W r).length → q_At q_m129 (q_WP q_Pr (d + 1)) P 31 [(2, .inl k), (3, .inl x), (4, .inl o), (5, .inr (.inr m)), (6, .inl (wsT W r k x i)), (7, .inl (i : Int))] [] M c s := by
  have hm := cx.1.1
  have q := mw hm (i := k) hk.1 hk.2
  have tk := tk_all g hr
  have sr := w_sum (k := k) g hr (n := (w_T W r).length) (Nat.le_refl _)
  intro n
  induction n with
  | zero =>
    intro i h0
    refine t_129_31 hm.1 ?_
    rw [mr13 hm, mk3 hm, ml3 hm, wt.2.1, show q_nm M m 3 = (w_T W r).length from rd.1.1, show i = (w_T W r).length by omega]
    exact ⟨mk0 hm, fun _ => ⟨mk0 hm, ⟨rfl, by omega, by omega⟩, c_144 hm.1 (wsT_rng _) (by omega) ⟨hm.1, K⟩⟩, fun z => absurd z (by omega)⟩
  | succ n ih =>
    intro i h0
    have hin : i < (w_T W r).length := by omega
    have de := (rd.2.1 i hin).2.2.1
    have si := sen_iff g.2.1 de hx
    have s1 := wsT_rng (W := W) (r := r) (k := k) (x := x) (i + 1)
    have s3 := w_sum (k := k) g hr (n := i + 1) (by omega)
    have nx := ih (i + 1) (by omega)
    refine t_129_31 hm.1 ?_
    rw [mr9 hm, mk9 hm, ml9 hm, mr14 hm, mk12 hm, ml12 hm, q.1, q.2.1, q.2.2, show q_nm M m 3 = (w_T W r).length from rd.1.1, wt.1 i hin, w32_id (x := (i : Int) + 1) (by omega) (by omega), show (i : Int) + 1 = ((i + 1 : Nat) : Int) by omega]
    refine ⟨mk0 hm, fun z => absurd z (by omega), fun _ => ⟨mk0 hm, ⟨rfl, by omega, by omega⟩, fun z => ?_, fun z => ⟨mk0 hm, ⟨by omega, by omega, by omega⟩, ⟨rfl, by omega, by omega⟩, ?_⟩⟩⟩
    · rw [wsT_f (fun q => z (si.mpr q))] at nx; exact nx
    · rw [wsT_t (si.mp z)] at nx s1
      rw [w32_id (by omega) (by omega)]; exact nx
def Zq : Int → Int → Prop := fun a j => (a = 66 ∧ j = 65) ∨ a = 116
theorem r_246s {d : Nat} {P : Int → qM → Prop} {M : qM} {W : qW} {r x x3 p : Int} {i : Nat} {c s : Nat} (hl : q_lay M) (g : WG W) (hr : 0 ≤ r ∧ r < w_nr W) (rd : w_rd W M r) (hi : i < (w_T W r).length) (hp : 0 ≤ p ∧ p < (w_RL W r).length) (h3 : 0 ≤ x3 ∧ x3 < 2) (K1 : snP (w_nw W) (w_WL W) (w_WE W) (pie (w_WL W) (w_RL W r) (w_t W r i) p) x → ∀ M', fr Zq M M' → P 1 M') (K0 : ¬ snP (w_nw W) (w_WL W) (w_WE W) (pie (w_WL W) (w_RL W r) (w_t W r i) p) x → ∀ M', fr Zq M M' → q_lay M' → w_rd W M' r → q_At q_m246 (q_WP q_Pr (d + 3)) P 13 [(0, .inr (.inr 66)), (1, .inl (i : Int)), (2, .inl x), (3, .inl (x3 + 1))] [] M' c s) : q_At q_m246 (q_WP q_Pr (d + 3)) P 71 [(0, .inr (.inr 66)), (1, .inl (i : Int)), (2, .inl x), (3, .inl x3)] [.inl p, .inl (q_nm M 66 56), .inl (i : Int), .inr (.inr 66)] M c s := by
  have tk := tk_all g hr
  have ta := rd.2.2.2.2 i hi
  have ok := tk.1 _ (getT_mem hi)
  refine t_246_71 hl ⟨lk66 hl, ?_⟩
  rw [rd.2.1.1]
  refine r_196 (d := d) (t := w_t W r i) hl rd.1.1 g.2.1 rd.2.2.1 (g.2.2.1.2 r hr.1 hr.2) (by omega) ta.1 ok hp (fun M2 f2 pc => ⟨fr_lay f2 hl, ?_⟩)
  have l2 := fr_lay f2 hl
  have f2' : fr Zq M M2 := f2
  have rd2 : w_rd W M2 r := R_rdy_fr rd f2 (fun a j q => by omega)
  refine r_194 (d := d + 1) l2 rd2.1.1 g.2.1 pc (fun v nv => ⟨l2, fun z => ?_, fun z => ?_⟩)
  · rw [w32_id (x := x3 + 1) (by omega) (by omega)]
    exact K0 (fun q => ((num_iff g.2.1 nv).mp q).1 z) M2 f2' l2 rd2
  · have gn := g.2.1.1
    have vr : 0 ≤ v ∧ v < w_nw W := by
      rcases nv with ⟨a, _⟩ | ⟨a, _⟩
      · exact a
      · exact absurd a z
    rw [(rd2.1.1.2 v vr.1 vr.2).2.2.1, w32_id (x := x3 + 1) (by omega) (by omega)]
    exact ⟨by omega, fun y => K0 (fun q => y ((num_iff g.2.1 nv).mp q).2) M2 f2' l2 rd2, fun y => K1 ((num_iff g.2.1 nv).mpr ⟨z, y⟩) M2 f2'⟩
theorem r_246W {d : Nat} {P : Int → qM → Prop} {M : qM} {W : qW} {r x : Int} {i : Nat} (hl : q_lay M) (g : WG W) (hr : 0 ≤ r ∧ r < w_nr W) (rd : w_rd W M r) (hi : i < (w_T W r).length) (K1 : w_has W r x i → ∀ M', fr Zq M M' → P 1 M') (K0 : ¬ w_has W r x i → ∀ M', fr Zq M M' → P 0 M') : q_WP q_Pr (d + 4) 246 [.inr (.inr 66), .inl (i : Int), .inl x] M P := by
  have tk := tk_all g hr
  have ta := rd.2.2.2.2 i hi
  have ok := tk.1 _ (getT_mem hi)
  have e8 : q_nm M 108 i = (w_t W r i).1 := ta.1.1
  have e9 : q_nm M 109 i = (w_t W r i).2.1 := ta.1.2.1
  refine q_enter (t_246_0 hl ?_)
  rw [e8]
  refine ⟨by omega, fun z => ?_, fun z => K0 (fun q => q.1 z) M fr_rfl⟩
  have pr : (0 ≤ (w_t W r i).2.1 ∧ (w_t W r i).2.1 < (w_RL W r).length) ∧ ((w_t W r i).1 = 3 ∨ (w_t W r i).1 = 4 → (0 ≤ (w_t W r i).2.2 ∧ (w_t W r i).2.2 < (w_RL W r).length)) := by
    unfold okT at ok
    rcases ok with q | q | q | q
    · exact absurd q.1 z
    · exact ⟨q.2.1, fun _ => q.2.2.1⟩
    · refine ⟨q.2.1, fun y => ?_⟩
      have h5 : 5 ≤ (w_t W r i).1 := q.1.1
      omega
    · refine ⟨q.2.1, fun y => ?_⟩
      have h8 : (w_t W r i).1 = 8 := q.1
      omega
  refine t_246_13 hl ⟨fun y => absurd y (by decide), fun _ => ⟨fun _ => ⟨fun y => absurd rfl y, fun _ => ⟨by omega, ?_⟩⟩, fun y => absurd y (by decide)⟩⟩
  rw [e9]
  refine r_246s (d := d) hl g hr rd hi pr.1 (by decide) (fun q M' f => K1 ⟨z, Or.inl q⟩ M' f) (fun q M' f l' rd' => ?_)
  have ta' := rd'.2.2.2.2 i hi
  have e8' : q_nm M' 108 i = (w_t W r i).1 := ta'.1.1
  have e10' : q_nm M' 110 i = (w_t W r i).2.2 := ta'.1.2.2
  have last : ¬ w_has W r x i → ∀ M2, fr Zq M M2 → q_lay M2 → q_At q_m246 (q_WP q_Pr (d + 3)) P 13 [(0, .inr (.inr 66)), (1, .inl (i : Int)), (2, .inl x), (3, .inl (2 : Int))] [] M2 0 0 := fun u M2 f2 l2 => t_246_13 l2 ⟨fun _ => K0 u M2 f2, fun y => absurd y (by decide)⟩
  have two : (w_t W r i).1 = 3 ∨ (w_t W r i).1 = 4 → q_At q_m246 (q_WP q_Pr (d + 3)) P 71 [(0, .inr (.inr 66)), (1, .inl (i : Int)), (2, .inl x), (3, .inl (1 : Int))] [.inl ((w_t W r i).2.2), .inl (q_nm M' 66 56), .inl (i : Int), .inr (.inr 66)] M' 0 0 := fun k => r_246s (d := d) l' g hr rd' hi (pr.2 k) (by decide) (fun u M2 f2 => K1 ⟨z, Or.inr ⟨k, u⟩⟩ M2 (fr_trans f f2)) (fun u M2 f2 l2 _ => last (fun v => v.2.elim q (fun v => u v.2)) M2 (fr_trans f f2) l2)
  refine t_246_13 l' ⟨fun y => absurd y (by decide), fun _ => ⟨fun y => absurd rfl y, fun _ => ?_⟩⟩
  rw [e8', e10']
  refine ⟨by omega, fun y => ⟨fun _ => ⟨by omega, two (Or.inl y)⟩, fun u => absurd u (by decide)⟩, fun y => ⟨by omega, fun v => ⟨fun _ => ⟨by omega, two (Or.inr v)⟩, fun u => absurd u (by decide)⟩, fun v => ?_⟩⟩
  exact last (fun u => u.2.elim q (fun t => t.1.elim y v)) M' f l'
theorem r_247l {d : Nat} {P : Int → qM → Prop} {M0 : qM} {W : qW} {r k x o : Int} {c s : Nat} (g : WG W) (hr : 0 ≤ r ∧ r < w_nr W) (rd0 : w_rd W M0 r) (wt : ∀ i : Nat, i < (w_T W r).length → q_nm M0 118 i = w_wt W r k i) (hp : ¬ sumN (w_wt W r k) (w_T W r).length = 0) (K : ∀ M', fr Zq M0 M' → P (lowV (wsT W r k x (w_T W r).length) (sumN (w_wt W r k) (w_T W r).length) o) M') : ∀ (n i : Nat) (M : qM), i + n = (w_T W r).length → fr Zq M0 M → q_lay M → q_At q_m247 (q_WP q_Pr (d + 4)) P 51 [(0, .inr (.inr 66)), (3, .inl x), (4, .inl o), (5, .inl (sumN (w_wt W r k) (w_T W r).length)), (6, .inl (wsT W r k x i)), (7, .inl (i : Int))] [] M c s := by
  have tk := tk_all g hr
  have sr := w_sum (k := k) g hr (n := (w_T W r).length) (Nat.le_refl _)
  intro n
  induction n with
  | zero =>
    intro i M h0 f hl
    have rd : w_rd W M r := R_rdy_fr rd0 f (fun a j q => by unfold Zq at q; omega)
    refine t_247_51 hl ?_
    rw [show q_nm M 66 55 = (w_T W r).length from rd.2.2.2.1, show i = (w_T W r).length by omega]
    exact ⟨fun _ => r_227 (d := d + 2) hl (wsT_rng _) (by omega) ⟨hl, K M f⟩, fun z => absurd z (by omega)⟩
  | succ n ih =>
    intro i M h0 f hl
    have hin : i < (w_T W r).length := by omega
    have rd : w_rd W M r := R_rdy_fr rd0 f (fun a j q => by unfold Zq at q; omega)
    have e118 : ∀ M', fr Zq M0 M' → q_nm M' 118 i = w_wt W r k i := fun M' f' => (f'.2 _ _ (by unfold Zq; omega)).trans (wt i hin)
    have s1 := wsT_rng (W := W) (r := r) (k := k) (x := x) (i + 1)
    have s3 := w_sum (k := k) g hr (n := i + 1) (by omega)
    have wr := w_wt_rng W r k i
    refine t_247_51 hl ?_
    rw [show q_nm M 66 55 = (w_T W r).length from rd.2.2.2.1, e118 M f, w32_id (x := (i : Int) + 1) (by omega) (by omega), show (i : Int) + 1 = ((i + 1 : Nat) : Int) by omega]
    refine ⟨fun z => absurd z (by omega), fun _ => ⟨by omega, fun z => ?_, fun z => ?_⟩⟩
    · have nx := ih (i + 1) M (by omega) f hl
      by_cases e : w_has W r x i
      · rw [wsT_t e, show w_wt W r k i = 0 by omega, Int.add_zero] at nx; exact nx
      · rw [wsT_f e] at nx; exact nx
    · refine r_246W (d := d) hl g hr rd hin (fun e M2 f2 => ⟨fr_lay f2 hl, fun q => absurd q (by decide), fun _ => ⟨by omega, ?_⟩⟩) (fun e M2 f2 => ⟨fr_lay f2 hl, fun _ => ?_, fun q => absurd rfl q⟩)
      · have nx := ih (i + 1) M2 (by omega) (fr_trans f f2) (fr_lay f2 hl)
        rw [e118 M2 (fr_trans f f2)]
        rw [wsT_t e] at nx s1
        rw [w32_id (by omega) (by omega)]; exact nx
      · have nx := ih (i + 1) M2 (by omega) (fr_trans f f2) (fr_lay f2 hl)
        rw [wsT_f e] at nx; exact nx
theorem ok_wish' {L : Nat} {X : Int → Int} {D : Nat} : ∀ a b c e : Int, q_i32 a → q_i32 b → q_i32 c → q_i32 e → q_ok L X (INV L X) (D + 30) 129 247 [.inl a, .inl b, .inl c, .inl e] := by
  intro a b c e _ _ _ _
  refine q_okQ (fun W => cif ((w_mk W b ∧ (0 ≤ a ∧ a < w_nr W)) ∧ (0 ≤ c ∧ c < 10)) (lowV (wsT W a b c (w_T W a).length) (sumN (w_wt W a b) (w_T W a).length) e) (-1)) id (fun W g => g) (fun W M hl g h => ?_) (fun W M hl g h => ?_)
  · refine q_enter (t_129_0 hl (c_140W (d := D + 21) hl g h (fun mk hr M' f l w cx rd wt er e2 => ⟨l, fun z => absurd z (by have := q_ml_ge cx.1.1; omega), fun _ => ⟨fun y => ⟨(cif_neg (fun q => by have := q.2; omega)).symm, kR_fr hl f, w⟩, fun y => ⟨fun x => ?_, fun x => ⟨(cif_neg (fun q => by have := q.2; omega)).symm, kR_fr hl f, w⟩⟩⟩⟩) (fun hn => ⟨hl, fun _ => ⟨(cif_neg (fun q => hn q.1)).symm, kR_rfl hl, h⟩, fun z => absurd rfl z⟩)))
    have mk1 := mk.1
    rw [cif_pos ⟨⟨mk, hr⟩, y, x⟩]
    exact c_129l (d := D + 28) g hr cx rd (by omega) ⟨y, x⟩ wt ⟨rfl, kR_fr hl f, w⟩ (w_T W a).length 0 (by omega)
  · refine q_enter (t_247_0 (d := D + 27) hl ?_)
    rw [h.2.2.1.1]
    refine ⟨g.2.2.1.1, fun hr => ⟨fun z => ⟨fun y => ?_, fun y => ⟨(cif_neg (fun q => y (by have := q.2; omega))).symm, fr_rfl, h⟩⟩, fun z => ⟨(cif_neg (fun q => z ((R_mk h).mpr q.1.1))).symm, fr_rfl, h⟩⟩, fun hr => ⟨(cif_neg (fun q => hr q.1.2)).symm, fr_rfl, h⟩⟩
    have mk := (R_mk h).mp z
    rw [cif_pos ⟨⟨mk, hr⟩, by omega⟩]
    refine r_215W (d := D + 22) hl g h hr mk (fun M' f l w rd wt => ⟨l, fun u => ?_, fun u => ⟨by unfold lowV; rw [if_pos (by omega)], f, w⟩⟩)
    refine r_247l (d := D + 25) g hr rd wt u (fun M2 f2 => ⟨rfl, fr_trans f (fr_mono f2 (fun x j q => by unfold Zq at q; unfold Zr; omega)), ?_⟩) (w_T W a).length 0 M' (by omega) fr_rfl l
    have rd2 := R_rdy_fr rd f2 (fun x j q => by unfold Zq at q; omega)
    exact WR_Y w f2 (fun x j q => by unfold Zq at q; omega) hr rd2.2.1.1 rd2.2.1.2 rd2.2.2.2
end
