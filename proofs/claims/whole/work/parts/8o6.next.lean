section
theorem r_215V {d : Nat} {P : Int → qM → Prop} {M : qM} {W : qW} {r k : Int} (hl : q_lay M) (g : WG W) (h : WR W M) (hr : 0 ≤ r ∧ r < w_nr W) (hk : w_mk W k) (K : ∀ M', fr ZV M M' → q_lay M' → WR W M' → w_rd W M' r → (∀ i : Nat, i < (w_T W r).length → q_nm M' 118 i = w_wt W r k i) → P (smA W r k) M') : q_WP q_Pr (d + 7) 215 [.inr (.inr 66), .inl r, .inl k] M P := by
  obtain ⟨hk0, sc, esc⟩ := hk
  have so := h.2.2.2.1 k hk0.1 (by omega)
  rw [esc] at so
  have ew : w_wt W r k = wK (w_nw W) (w_WL W) (w_WS W) (w_WE W) (w_WO W) (w_RL W r) k (some sc) := by show wK _ _ _ _ _ _ _ (w_SO W k) = _; rw [esc]
  refine r_215 hl h.2.1 g.2.1 (h.2.2.1.2.1 r hr.1 hr.2) (g.2.2.1.2 r hr.1 hr.2) h.2.2.1.2.2 hr hk0 so.2.1 so.2.2 (fun M' f1 c1 c2 => ?_)
  rw [← ew] at c2 ⊢
  have wr := WR_Y h f1 (fun a j q => by unfold ZV ZY Zp at q; omega) hr c1.2.1.1 c1.2.1.2 c1.2.2.2
  exact K M' f1 (fr_lay f1 hl) wr c1 c2
def Z34 : Int → Int → Prop := fun a _ => a = 123 ∨ a = 124
def Z4 : Int → Int → Prop := fun a _ => a = 124
theorem WR_34 {Z : Int → Int → Prop} {W : qW} {M M' : qM} {r : Int} (w : WR W M) (hr : 0 ≤ r ∧ r < w_nr W) (rd : w_rd W M r) (f : fr Z M M') (z : ∀ a j, Z a j → a = 123 ∨ a = 124) : WR W M' ∧ w_rd W M' r := by
  have rd2 : w_rd W M' r := R_rdy_fr rd f (fun a j q => by have := z a j q; omega)
  exact ⟨WR_Y w f (fun a j q => by have := z a j q; omega) hr rd2.2.1.1 rd2.2.1.2 rd2.2.2.2, rd2⟩
/-- both weights side by side, marks -/
def DS (W : qW) (r a b : Int) (M : qM) : Prop := q_lay M ∧ WR W M ∧ w_rd W M r ∧ (∀ i : Nat, i < (w_T W r).length → q_nm M 123 i = w_wt W r a i) ∧ ∀ i : Nat, i < (w_T W r).length → q_nm M 118 i = w_wt W r b i
theorem DS.l {W : qW} {r a b : Int} {M : qM} (h : DS W r a b M) : q_lay M := h.1
theorem DS.w {W : qW} {r a b : Int} {M : qM} (h : DS W r a b M) : WR W M := h.2.1
theorem DS.rd {W : qW} {r a b : Int} {M : qM} (h : DS W r a b M) : w_rd W M r := h.2.2.1
theorem DS.wa {W : qW} {r a b : Int} {M : qM} (h : DS W r a b M) : ∀ i : Nat, i < (w_T W r).length → q_nm M 123 i = w_wt W r a i := h.2.2.2.1
theorem DS.wb {W : qW} {r a b : Int} {M : qM} (h : DS W r a b M) : ∀ i : Nat, i < (w_T W r).length → q_nm M 118 i = w_wt W r b i := h.2.2.2.2
theorem DS_4 {W : qW} {r a b : Int} {M M' : qM} (h : DS W r a b M) (hr : 0 ≤ r ∧ r < w_nr W) (f : fr Z4 M M') : DS W r a b M' := by
  have q := WR_34 h.w hr h.rd f (fun a j q => by unfold Z4 at q; omega)
  exact ⟨fr_lay f h.l, q.1, q.2, fun i hi => (f.2 _ _ (by unfold Z4; omega)).trans (h.wa i hi), fun i hi => (f.2 _ _ (by unfold Z4; omega)).trans (h.wb i hi)⟩
def mkd (W : qW) (r : Int) (M : qM) (p : Nat → Prop) : Prop := ∀ k : Nat, k < (w_T W r).length → (¬ q_nm M 124 k = 0 ↔ p k)
theorem r_243i {d : Nat} {P : Int → qM → Prop} {M0 : qM} {W : qW} {r a b x8 : Int} {i : Nat} {c s : Nat} (g : WG W) (hr : 0 ≤ r ∧ r < w_nr W) (hi : i < (w_T W r).length) (fs : fsP (w_tx W r) i) (h8 : x8 = dsT W r a b i) (K : ∀ M', fr Z4 M0 M' → DS W r a b M' → mkd W r M' (fun k => ∃ l, l < i + 1 ∧ w_tx W r l = w_tx W r k) → q_At q_m243 (q_WP q_Pr (d + 1)) P 80 [(0, .inr (.inr 66)), (4, .inr (.inl (smA W r a))), (6, .inr (.inl (smA W r b))), (8, .inr (.inl (dsT W r a b (i + 1)))), (10, .inl (((i + 1 : Nat)) : Int))] [] M' c s) : ∀ (n j : Nat) (M : qM), j + n = (w_T W r).length → i ≤ j → fr Z4 M0 M → DS W r a b M → mkd W r M (fun k => (∃ l, l < i ∧ w_tx W r l = w_tx W r k) ∨ (k < j ∧ w_tx W r k = w_tx W r i)) → q_At q_m243 (q_WP q_Pr (d + 1)) P 112 [(0, .inr (.inr 66)), (4, .inr (.inl (smA W r a))), (6, .inr (.inl (smA W r b))), (8, .inr (.inl x8)), (10, .inl (i : Int)), (11, .inr (.inl (shT (w_wt W r a) (w_tx W r) (w_tx W r i) j))), (13, .inr (.inl (shT (w_wt W r b) (w_tx W r) (w_tx W r i) j))), (15, .inl (j : Int))] [] M c s := by
  have tk := tk_all g hr
  have sa := sm_rng (a := a) g hr
  have sb := sm_rng (a := b) g hr
  intro n
  induction n with
  | zero =>
    intro j M h0 hij f D mk
    have sha := sh_rng (a := a) g hr i
    have shb := sh_rng (a := b) g hr i
    have dr := dsT_rng (a := a) (b := b) g hr i
    have pr := prod_rng sa sb
    have st := abs_step (x7 := dsT W r a b i) (by omega) (prod_rng sha sb) (prod_rng shb sa)
    have kk := K M f D (fun k hk => by
      rw [mk k hk]
      constructor
      · rintro (⟨l, u, v⟩ | ⟨u, v⟩)
        · exact ⟨l, by omega, v⟩
        · exact ⟨i, by omega, v.symm⟩
      · rintro ⟨l, u, v⟩
        by_cases e : l = i
        · rw [e] at v; exact Or.inr ⟨by omega, v.symm⟩
        · exact Or.inl ⟨l, by omega, v⟩)
    rw [dsT_t fs] at kk
    refine t_243_112 D.l ?_
    rw [show q_nm M 66 55 = (w_T W r).length from D.rd.2.2.2.1, show j = (w_T W r).length by omega, w32_id (x := (i : Int) + 1) (by omega) (by omega), show (i : Int) + 1 = ((i + 1 : Nat) : Int) by omega, h8]
    change (_ → (0 ≤ q_lc (w64 (w64 (shA W r a i * smA W r b) - w64 (shA W r b i * smA W r a))) 0 → q_At q_m243 _ _ _ [_, _, _, (8, .inr (.inl (w64 (_ + w64 (w64 (shA W r a i * smA W r b) - w64 (shA W r b i * smA W r a)))))), _] _ _ _ _) ∧ (q_lc (w64 (w64 (shA W r a i * smA W r b) - w64 (shA W r b i * smA W r a))) 0 < 0 → q_At q_m243 _ _ _ [_, _, _, (8, .inr (.inl (w64 (_ + w64 (-w64 (w64 (shA W r a i * smA W r b) - w64 (shA W r b i * smA W r a))))))), _] _ _ _ _)) ∧ _
    rw [w64_prod sha sb, w64_prod shb sa]
    refine ⟨fun _ => ⟨fun z => ?_, fun z => ?_⟩, fun z => absurd z (by omega)⟩
    · rw [st.1 z]; exact kk
    · rw [st.2 z]; exact kk
  | succ n ih =>
    intro j M h0 hij f D mk
    have hjn : j < (w_T W r).length := by omega
    have ti := D.rd.2.2.2.2 i hi
    have tj := D.rd.2.2.2.2 j hjn
    have tg := (tx_G g hr hi).1.1
    refine t_243_112 D.l ?_
    rw [show q_nm M 66 55 = (w_T W r).length from D.rd.2.2.2.1, w32_id (x := (j : Int) + 1) (by omega) (by omega), show (j : Int) + 1 = ((j + 1 : Nat) : Int) by omega, w32_id (x := 104 * (i : Int)) (by omega) (by omega), show q_nm M 112 i = ((w_tx W r i).length : Int) from ti.2.1]
    refine ⟨fun z => absurd z (by omega), fun _ => ⟨by omega, fun z => ?_, fun z => ⟨by omega, ?_⟩⟩⟩
    · have nj : ¬ w_tx W r j = w_tx W r i := fun e => by
        rcases (mk j hjn).mp z with ⟨l, u, v⟩ | ⟨u, _⟩
        · exact fs l u (v.trans e)
        · omega
      have nx := ih (j + 1) M (by omega) (by omega) f D (fun k hk => by
        rw [mk k hk]
        refine or_congr Iff.rfl ⟨fun ⟨u, v⟩ => ⟨by omega, v⟩, fun ⟨u, v⟩ => ⟨by
          by_cases e : k = j
          · rw [e] at v; exact absurd v nj
          · omega, v⟩⟩)
      rw [shT_f nj, shT_f nj] at nx; exact nx
    · refine r_223 (d := d) (tx := w_tx W r j) (sd := w_tx W r i) D.l (by omega) tj.2.1 tg tj.2.2.1 (lk111 D.l) ⟨by omega, by omega, by rw [ll111 D.l]; omega⟩ ti.2.2.1 (fun e => ⟨D.l, fun _ => ⟨by omega, fun M3 e3 l3 => ?_⟩, fun q => absurd q (by decide)⟩) (fun e => ⟨D.l, fun q => absurd rfl q, fun _ => ?_⟩)
      · have f3 : fr Z4 M M3 := fr_wn e3 rfl
        have D3 := DS_4 D hr f3
        have nx := ih (j + 1) M3 (by omega) (by omega) (fr_trans f f3) D3 (fun k hk => by
          by_cases ek : k = j
          · rw [ek, wn_eq e3]
            exact ⟨fun _ => Or.inr ⟨by omega, e⟩, fun _ => by decide⟩
          · rw [wn_ne e3 (by omega), mk k hk]
            exact or_congr Iff.rfl ⟨fun ⟨u, v⟩ => ⟨by omega, v⟩, fun ⟨u, v⟩ => ⟨by omega, v⟩⟩)
        have a1 := w_sh (W := W) (r := r) (k := a) (sd := w_tx W r i) (n := j + 1)
        have a2 := w_sum (k := a) g hr (n := j + 1) (by omega)
        have b1 := w_sh (W := W) (r := r) (k := b) (sd := w_tx W r i) (n := j + 1)
        have b2 := w_sum (k := b) g hr (n := j + 1) (by omega)
        rw [shT_t e] at nx a1 b1
        rw [shT_t e] at nx
        rw [D3.wa j hjn, D3.wb j hjn, w64_id (x := shT (w_wt W r a) (w_tx W r) (w_tx W r i) j + w_wt W r a j) (by omega) (by omega), w64_id (x := shT (w_wt W r b) (w_tx W r) (w_tx W r i) j + w_wt W r b j) (by omega) (by omega)]
        exact ⟨by omega, by omega, nx⟩
      · have nx := ih (j + 1) M (by omega) (by omega) f D (fun k hk => by
          rw [mk k hk]
          refine or_congr Iff.rfl ⟨fun ⟨u, v⟩ => ⟨by omega, v⟩, fun ⟨u, v⟩ => ⟨by
            by_cases ek : k = j
            · rw [ek] at v; exact absurd v e
            · omega, v⟩⟩)
        rw [shT_f e, shT_f e] at nx; exact nx
theorem r_243o {d : Nat} {P : Int → qM → Prop} {M0 : qM} {W : qW} {r a b : Int} {c s : Nat} (g : WG W) (hr : 0 ≤ r ∧ r < w_nr W) (za : ¬ smA W r a = 0) (zb : ¬ smA W r b = 0) (K : ∀ M', fr Z4 M0 M' → DS W r a b M' → P (dsV W r a b) M') : ∀ (n i : Nat) (M : qM), i + n = (w_T W r).length → fr Z4 M0 M → DS W r a b M → mkd W r M (fun k => ∃ l, l < i ∧ w_tx W r l = w_tx W r k) → q_At q_m243 (q_WP q_Pr (d + 1)) P 80 [(0, .inr (.inr 66)), (4, .inr (.inl (smA W r a))), (6, .inr (.inl (smA W r b))), (8, .inr (.inl (dsT W r a b i))), (10, .inl (i : Int))] [] M c s := by
  have tk := tk_all g hr
  have fin := ds_fin g hr za zb
  intro n
  induction n with
  | zero =>
    intro i M h0 f D mk
    refine t_243_80 D.l ?_
    rw [show q_nm M 66 55 = (w_T W r).length from D.rd.2.2.2.1, show i = (w_T W r).length by omega, fin.2.1]
    exact ⟨fun _ => ⟨fin.1, K M f D⟩, fun z => absurd z (by omega)⟩
  | succ n ih =>
    intro i M h0 f D mk
    have hi : i < (w_T W r).length := by omega
    refine t_243_80 D.l ?_
    rw [show q_nm M 66 55 = (w_T W r).length from D.rd.2.2.2.1]
    refine ⟨fun z => absurd z (by omega), fun _ => ⟨by omega, fun z => ?_, fun z => ?_⟩⟩
    · have fs : fsP (w_tx W r) i := fun j hj e => (mk i hi).mpr ⟨j, hj, e⟩ z
      have r := r_243i (d := d) (P := P) (M0 := M) (x8 := dsT W r a b i) (c := c) (s := s) g hr hi fs rfl (fun M' f' D' mk' => ih (i + 1) M' (by omega) (fr_trans f f') D' mk') ((w_T W r).length - i) i M (by omega) (Nat.le_refl i) fr_rfl D (fun k hk => by
        rw [mk k hk]
        refine ⟨fun u => Or.inl u, fun u => u.elim id (fun v => ?_)⟩
        exact absurd v.2 (by
          have := fs k v.1
          exact this))
      rw [shT_zero i fs, shT_zero i fs] at r
      exact r
    · have fs : ¬ fsP (w_tx W r) i := fun q => by
        obtain ⟨l, u, v⟩ := (mk i hi).mp z
        exact q l u v
      have nx := ih (i + 1) M (by omega) f D (fun k hk => by
        rw [mk k hk]
        refine ⟨fun ⟨l, u, v⟩ => ⟨l, by omega, v⟩, fun ⟨l, u, v⟩ => ?_⟩
        by_cases e : l = i
        · obtain ⟨l', u', v'⟩ := (mk i hi).mp z
          rw [e] at v; exact ⟨l', u', v'.trans v⟩
        · exact ⟨l, by omega, v⟩)
      rw [dsT_f fs] at nx
      rw [w32_id (x := (i : Int) + 1) (by omega) (by omega), show (i : Int) + 1 = ((i + 1 : Nat) : Int) by omega]
      exact nx
theorem r_243c {d : Nat} {P : Int → qM → Prop} {M0 : qM} {W : qW} {r a b : Int} {c s : Nat} (g : WG W) (hr : 0 ≤ r ∧ r < w_nr W) (mb : w_mk W b) (K : ∀ M', fr Zr M0 M' → q_lay M' → WR W M' → P (dsV W r a b) M') : ∀ (n i : Nat) (M : qM), i + n = (w_T W r).length → fr Zr M0 M → q_lay M → WR W M → w_rd W M r → (∀ j : Nat, j < (w_T W r).length → q_nm M 118 j = w_wt W r a j) → (∀ j : Nat, j < i → (q_nm M 123 j = w_wt W r a j ∧ q_nm M 124 j = 0)) → q_At q_m243 (q_WP q_Pr (d + 7)) P 12 [(0, .inr (.inr 66)), (1, .inl r), (3, .inl b), (4, .inr (.inl (smA W r a))), (6, .inl (i : Int))] [] M c s := by
  have tk := tk_all g hr
  intro n
  induction n with
  | zero =>
    intro i M h0 f hl w rd wa h34
    refine t_243_12 hl ?_
    rw [show q_nm M 66 55 = (w_T W r).length from rd.2.2.2.1]
    refine ⟨fun _ => r_215V (d := d) hl g w hr mb (fun M2 f2 l2 w2 rd2 wb => ⟨l2, fun z => ?_, fun z => ⟨fun y => ?_, fun y => ?_⟩⟩), fun z => absurd z (by omega)⟩
    · have kk := K M2 (fr_trans f (fr_mono f2 (fun a j q => by unfold ZV ZY Zp at q; unfold Zr; omega))) l2 w2
      unfold dsV at kk; rw [if_pos (Or.inl (q_lc_z z))] at kk; exact kk
    · have D2 : DS W r a b M2 := ⟨l2, w2, rd2, fun j hj => (f2.2 _ _ (by unfold ZV ZY Zp; omega)).trans (h34 j (by omega)).1, wb⟩
      exact r_243o (d := d + 6) (M0 := M2) g hr (q_lc_nz z) (q_lc_nz y) (fun M' f' D' => K M' (fr_trans f (fr_trans (fr_mono f2 (fun a j q => by unfold ZV ZY Zp at q; unfold Zr; omega)) (fr_mono f' (fun a j q => by unfold Z4 at q; unfold Zr; omega)))) D'.l D'.w) (w_T W r).length 0 M2 (by omega) fr_rfl D2 (fun k hk => by
        rw [(f2.2 _ _ (by unfold ZV ZY Zp; omega)).trans (h34 k (by omega)).2]
        exact ⟨fun q => absurd rfl q, fun ⟨l, u, _⟩ => absurd u (Nat.not_lt_zero l)⟩)
    · have kk := K M2 (fr_trans f (fr_mono f2 (fun a j q => by unfold ZV ZY Zp at q; unfold Zr; omega))) l2 w2
      unfold dsV at kk; rw [if_pos (Or.inr (q_lc_z y))] at kk; exact kk
  | succ n ih =>
    intro i M h0 f hl w rd wa h34
    have hi : i < (w_T W r).length := by omega
    refine t_243_12 hl ?_
    rw [show q_nm M 66 55 = (w_T W r).length from rd.2.2.2.1, w32_id (x := (i : Int) + 1) (by omega) (by omega), show (i : Int) + 1 = ((i + 1 : Nat) : Int) by omega, wa i hi]
    refine ⟨fun z => absurd z (by omega), fun _ => ⟨by omega, by omega, fun M3 e3 l3 => ⟨by omega, fun M4 e4 l4 => ?_⟩⟩⟩
    have f3 : fr Z34 M M3 := fr_wn e3 (Or.inl rfl)
    have f4 : fr Z34 M3 M4 := fr_wn e4 (Or.inr rfl)
    have q := WR_34 w hr rd (fr_trans f3 f4) (fun a j q => q)
    refine ih (i + 1) M4 (by omega) (fr_trans f (fr_mono (fr_trans f3 f4) (fun a j q => by unfold Z34 at q; unfold Zr; omega))) l4 q.1 q.2 (fun j hj => ((fr_trans f3 f4).2 _ _ (by unfold Z34; omega)).trans (wa j hj)) (fun j hj => ?_)
    by_cases e : j = i
    · rw [e, wn_ne e4 (by omega), wn_eq e3, wn_eq e4]; exact ⟨rfl, rfl⟩
    · rw [wn_ne e4 (by omega), wn_ne e3 (by omega), wn_ne e4 (by omega), wn_ne e3 (by omega)]; exact h34 j (by omega)
theorem r_243W {d : Nat} {P : Int → qM → Prop} {M : qM} {W : qW} {r a b : Int} (hl : q_lay M) (g : WG W) (h : WR W M) (hr : 0 ≤ r ∧ r < w_nr W) (ma : w_mk W a) (mb : w_mk W b) (K : ∀ M', fr Zr M M' → q_lay M' → WR W M' → P (dsV W r a b) M') : q_WP q_Pr (d + 8) 243 [.inr (.inr 66), .inl r, .inl a, .inl b] M P :=
  q_enter (t_243_0 hl (r_215V (d := d) hl g h hr ma (fun M2 f2 l2 w2 rd2 wa => ⟨l2, r_243c (d := d) (M0 := M) g hr mb K (w_T W r).length 0 M2 (by omega) (fr_mono f2 (fun a j q => by unfold ZV ZY Zp at q; unfold Zr; omega)) l2 w2 rd2 wa (fun j hj => absurd hj (Nat.not_lt_zero j))⟩)))
theorem ok_apart' {L : Nat} {X : Int → Int} {D : Nat} : ∀ a b c : Int, q_i32 a → q_i32 b → q_i32 c → q_ok L X (INV L X) (D + 30) 126 244 [.inl a, .inl b, .inl c] := by
  intro a b c _ _ _
  refine q_okQ (fun W => cif ((0 ≤ a ∧ a < w_nr W) ∧ w_mk W b ∧ w_mk W c) (dsV W a b c) (-1)) id (fun W g => g) (fun W M hl g h => ?_) (fun W M hl g h => ?_)
  · refine q_enter (t_126_0 (d := D + 28) hl (c_141W (d := D + 21) hl g h (fun hr M' f l w cx rd wt => ⟨l, fun z => absurd z (by have := q_ml_ge cx.1.1; omega), fun _ => ?_⟩) (fun hn => ⟨hl, fun _ => ⟨(cif_neg (fun q => hn q.1)).symm, kR_rfl hl, h⟩, fun z => absurd rfl z⟩)))
    have mkI : ∀ k, w_mk W k → ((0 ≤ k ∧ k < 4) ∧ ¬ q_rf M' 14 k = -1) := fun k mk => ⟨mk.1, (C_mk w (by have := mk.1; omega)).mpr mk.2⟩
    have mkE : ∀ k, ((0 ≤ k ∧ k < 4) ∧ ¬ q_rf M' 14 k = -1) → w_mk W k := fun k y => ⟨y.1, (C_mk w (by omega)).mp y.2⟩
    refine ⟨fun y => ⟨fun z => ⟨mk0 cx.1.1, ?_⟩, fun z => ⟨(cif_neg (fun q => z (mkI c q.2.2))).symm, kR_fr hl f, w⟩⟩, fun y => ⟨(cif_neg (fun q => y (mkI b q.2.1))).symm, kR_fr hl f, w⟩⟩
    rw [cif_pos ⟨hr, mkE b y, mkE c z⟩]
    exact c_32W (d := D + 27) g hr cx rd (by omega) (by omega) (wt b (mkE b y)) (wt c (mkE c z)) ⟨l, rfl, kR_fr hl f, w⟩
  · refine q_enter (t_244_0 (d := D + 27) hl ?_)
    rw [h.2.2.1.1]
    refine ⟨g.2.2.1.1, fun hr => ⟨fun z => ⟨fun y => ?_, fun y => ⟨(cif_neg (fun q => y ((R_mk h).mpr q.2.2))).symm, fr_rfl, h⟩⟩, fun z => ⟨(cif_neg (fun q => z ((R_mk h).mpr q.2.1))).symm, fr_rfl, h⟩⟩, fun hr => ⟨(cif_neg (fun q => hr q.1)).symm, fr_rfl, h⟩⟩
    have mb := (R_mk h).mp z
    have mc := (R_mk h).mp y
    rw [cif_pos ⟨hr, mb, mc⟩]
    exact r_243W (d := D + 21) hl g h hr mb mc (fun M' f l w => ⟨l, rfl, f, w⟩)
end
